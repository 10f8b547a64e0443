theorem dX6_copyFrom_37 : decode cX6_copyFrom 37 = .ok (.putfield 28, 3) := by decide +kernel
theorem dX6_copyFrom_40 : decode cX6_copyFrom 40 = .ok (.aload_n 1, 1) := by decide +kernel
theorem dX6_copyFrom_41 : decode cX6_copyFrom 41 = .ok (.getfield 9, 3) := by decide +kernel
theorem dX6_copyFrom_44 : decode cX6_copyFrom 44 = .ok (.iconst 0, 1) := by decide +kernel
theorem dX6_copyFrom_45 : decode cX6_copyFrom 45 = .ok (.aload_n 0, 1) := by decide +kernel
theorem dX6_copyFrom_46 : decode cX6_copyFrom 46 = .ok (.getfield 9, 3) := by decide +kernel
theorem dX6_copyFrom_49 : decode cX6_copyFrom 49 = .ok (.iconst 0, 1) := by decide +kernel
theorem dX6_copyFrom_50 : decode cX6_copyFrom 50 = .ok (.bipush 16, 2) := by decide +kernel
theorem dX6_copyFrom_52 : decode cX6_copyFrom 52 = .ok (.invokestatic 31, 3) := by decide +kernel
theorem dX6_copyFrom_55 : decode cX6_copyFrom 55 = .ok (.return_, 1) := by decide +kernel
theorem dX6_dropStrangers_0 : decode cX6_dropStrangers 0 = .ok (.aload_n 1, 1) := by decide +kernel
theorem dX6_dropStrangers_1 : decode cX6_dropStrangers 1 = .ok (.aload_n 0, 1) := by decide +kernel
theorem dX6_dropStrangers_2 : decode cX6_dropStrangers 2 = .ok (.getfield 15, 3) := by decide +kernel
theorem dX6_dropStrangers_5 : decode cX6_dropStrangers 5 = .ok (.invokevirtual 37, 3) := by decide +kernel
theorem dX6_dropStrangers_8 : decode cX6_dropStrangers 8 = .ok (.ifCond .ne 8, 3) := by decide +kernel
theorem dX6_dropStrangers_11 : decode cX6_dropStrangers 11 = .ok (.aload_n 0, 1) := by decide +kernel
theorem dX6_dropStrangers_12 : decode cX6_dropStrangers 12 = .ok (.iconst (-1), 1) := by decide +kernel
theorem dX6_dropStrangers_13 : decode cX6_dropStrangers 13 = .ok (.putfield 15, 3) := by decide +kernel
theorem dX6_dropStrangers_16 : decode cX6_dropStrangers 16 = .ok (.iconst 0, 1) := by decide +kernel
theorem dX6_dropStrangers_17 : decode cX6_dropStrangers 17 = .ok (.istore_n 2, 1) := by decide +kernel
theorem dX6_dropStrangers_18 : decode cX6_dropStrangers 18 = .ok (.iload_n 2, 1) := by decide +kernel
theorem dX6_dropStrangers_19 : decode cX6_dropStrangers 19 = .ok (.bipush 16, 2) := by decide +kernel
theorem dX6_dropStrangers_21 : decode cX6_dropStrangers 21 = .ok (.if_icmp .ge 24, 3) := by decide +kernel
theorem dX6_dropStrangers_24 : decode cX6_dropStrangers 24 = .ok (.aload_n 1, 1) := by decide +kernel
theorem dX6_dropStrangers_25 : decode cX6_dropStrangers 25 = .ok (.iload_n 2, 1) := by decide +kernel
theorem dX6_dropStrangers_26 : decode cX6_dropStrangers 26 = .ok (.invokevirtual 37, 3) := by decide +kernel
theorem dX6_dropStrangers_29 : decode cX6_dropStrangers 29 = .ok (.ifCond .ne 10, 3) := by decide +kernel
theorem dX6_dropStrangers_32 : decode cX6_dropStrangers 32 = .ok (.aload_n 0, 1) := by decide +kernel
theorem dX6_dropStrangers_33 : decode cX6_dropStrangers 33 = .ok (.getfield 9, 3) := by decide +kernel
theorem dX6_dropStrangers_36 : decode cX6_dropStrangers 36 = .ok (.iload_n 2, 1) := by decide +kernel
theorem dX6_dropStrangers_37 : decode cX6_dropStrangers 37 = .ok (.iconst 0, 1) := by decide +kernel
theorem dX6_dropStrangers_38 : decode cX6_dropStrangers 38 = .ok (.iastore, 1) := by decide +kernel
theorem dX6_dropStrangers_39 : decode cX6_dropStrangers 39 = .ok (.iinc 2 1, 3) := by decide +kernel
theorem dX6_dropStrangers_42 : decode cX6_dropStrangers 42 = .ok (.goto (-24), 3) := by decide +kernel
theorem dX6_dropStrangers_45 : decode cX6_dropStrangers 45 = .ok (.return_, 1) := by decide +kernel
theorem dX6_joyOf_0 : decode cX6_joyOf 0 = .ok (.iload_n 1, 1) := by decide +kernel
theorem dX6_joyOf_1 : decode cX6_joyOf 1 = .ok (.ifCond .lt 18, 3) := by decide +kernel
theorem dX6_joyOf_4 : decode cX6_joyOf 4 = .ok (.iload_n 1, 1) := by decide +kernel
theorem dX6_joyOf_5 : decode cX6_joyOf 5 = .ok (.bipush 16, 2) := by decide +kernel
theorem dX6_joyOf_7 : decode cX6_joyOf 7 = .ok (.if_icmp .ge 12, 3) := by decide +kernel
theorem dX6_joyOf_10 : decode cX6_joyOf 10 = .ok (.aload_n 0, 1) := by decide +kernel
theorem dX6_joyOf_11 : decode cX6_joyOf 11 = .ok (.getfield 9, 3) := by decide +kernel
theorem dX6_joyOf_14 : decode cX6_joyOf 14 = .ok (.iload_n 1, 1) := by decide +kernel
theorem dX6_joyOf_15 : decode cX6_joyOf 15 = .ok (.iaload, 1) := by decide +kernel
theorem dX6_joyOf_16 : decode cX6_joyOf 16 = .ok (.goto 4, 3) := by decide +kernel
theorem dX6_joyOf_19 : decode cX6_joyOf 19 = .ok (.iconst 0, 1) := by decide +kernel
theorem dX6_joyOf_20 : decode cX6_joyOf 20 = .ok (.ireturn, 1) := by decide +kernel
theorem dX6_joyOfAll_0 : decode cX6_joyOfAll 0 = .ok (.iconst 0, 1) := by decide +kernel
theorem dX6_joyOfAll_1 : decode cX6_joyOfAll 1 = .ok (.istore_n 1, 1) := by decide +kernel
theorem dX6_joyOfAll_2 : decode cX6_joyOfAll 2 = .ok (.iconst 0, 1) := by decide +kernel
theorem dX6_joyOfAll_3 : decode cX6_joyOfAll 3 = .ok (.istore_n 2, 1) := by decide +kernel
theorem dX6_joyOfAll_4 : decode cX6_joyOfAll 4 = .ok (.iload_n 2, 1) := by decide +kernel
theorem dX6_joyOfAll_5 : decode cX6_joyOfAll 5 = .ok (.bipush 16, 2) := by decide +kernel
theorem dX6_joyOfAll_7 : decode cX6_joyOfAll 7 = .ok (.if_icmp .ge 18, 3) := by decide +kernel
theorem dX6_joyOfAll_10 : decode cX6_joyOfAll 10 = .ok (.iload_n 1, 1) := by decide +kernel
theorem dX6_joyOfAll_11 : decode cX6_joyOfAll 11 = .ok (.aload_n 0, 1) := by decide +kernel
theorem dX6_joyOfAll_12 : decode cX6_joyOfAll 12 = .ok (.getfield 9, 3) := by decide +kernel
theorem dX6_joyOfAll_15 : decode cX6_joyOfAll 15 = .ok (.iload_n 2, 1) := by decide +kernel
theorem dX6_joyOfAll_16 : decode cX6_joyOfAll 16 = .ok (.iaload, 1) := by decide +kernel
theorem dX6_joyOfAll_17 : decode cX6_joyOfAll 17 = .ok (.iadd, 1) := by decide +kernel
theorem dX6_joyOfAll_18 : decode cX6_joyOfAll 18 = .ok (.istore_n 1, 1) := by decide +kernel
theorem dX6_joyOfAll_19 : decode cX6_joyOfAll 19 = .ok (.iinc 2 1, 3) := by decide +kernel
theorem dX6_joyOfAll_22 : decode cX6_joyOfAll 22 = .ok (.goto (-18), 3) := by decide +kernel
theorem dX6_joyOfAll_25 : decode cX6_joyOfAll 25 = .ok (.iload_n 1, 1) := by decide +kernel
theorem dX6_joyOfAll_26 : decode cX6_joyOfAll 26 = .ok (.ireturn, 1) := by decide +kernel
theorem dX6_liveDays_0 : decode cX6_liveDays 0 = .ok (.iconst 0, 1) := by decide +kernel
theorem dX6_liveDays_1 : decode cX6_liveDays 1 = .ok (.istore 5, 2) := by decide +kernel
theorem dX6_liveDays_3 : decode cX6_liveDays 3 = .ok (.iload 5, 2) := by decide +kernel
theorem dX6_liveDays_5 : decode cX6_liveDays 5 = .ok (.iload_n 1, 1) := by decide +kernel
theorem dX6_liveDays_6 : decode cX6_liveDays 6 = .ok (.if_icmp .ge 98, 3) := by decide +kernel
theorem dX6_liveDays_9 : decode cX6_liveDays 9 = .ok (.aload_n 0, 1) := by decide +kernel
theorem dX6_liveDays_10 : decode cX6_liveDays 10 = .ok (.getfield 25, 3) := by decide +kernel
theorem dX6_liveDays_13 : decode cX6_liveDays 13 = .ok (.sipush 9999, 3) := by decide +kernel
theorem dX6_liveDays_16 : decode cX6_liveDays 16 = .ok (.if_icmp .ge 88, 3) := by decide +kernel
theorem dX6_liveDays_19 : decode cX6_liveDays 19 = .ok (.iconst 0, 1) := by decide +kernel
theorem dX6_liveDays_20 : decode cX6_liveDays 20 = .ok (.istore 6, 2) := by decide +kernel
theorem dX6_liveDays_22 : decode cX6_liveDays 22 = .ok (.iload 6, 2) := by decide +kernel
theorem dX6_liveDays_24 : decode cX6_liveDays 24 = .ok (.bipush 12, 2) := by decide +kernel
theorem dX6_liveDays_26 : decode cX6_liveDays 26 = .ok (.if_icmp .ge 62, 3) := by decide +kernel
theorem dX6_liveDays_29 : decode cX6_liveDays 29 = .ok (.aload_n 2, 1) := by decide +kernel
theorem dX6_liveDays_30 : decode cX6_liveDays 30 = .ok (.iload 6, 2) := by decide +kernel
theorem dX6_liveDays_32 : decode cX6_liveDays 32 = .ok (.invokevirtual 43, 3) := by decide +kernel
theorem dX6_liveDays_35 : decode cX6_liveDays 35 = .ok (.istore 7, 2) := by decide +kernel
theorem dX6_liveDays_37 : decode cX6_liveDays 37 = .ok (.iload 7, 2) := by decide +kernel
theorem dX6_liveDays_39 : decode cX6_liveDays 39 = .ok (.iconst (-1), 1) := by decide +kernel
theorem dX6_liveDays_40 : decode cX6_liveDays 40 = .ok (.if_icmp .eq 42, 3) := by decide +kernel
theorem dX6_liveDays_43 : decode cX6_liveDays 43 = .ok (.aload_n 0, 1) := by decide +kernel
theorem dX6_liveDays_44 : decode cX6_liveDays 44 = .ok (.sipush 25173, 3) := by decide +kernel
theorem dX6_liveDays_47 : decode cX6_liveDays 47 = .ok (.aload_n 0, 1) := by decide +kernel
theorem dX6_liveDays_48 : decode cX6_liveDays 48 = .ok (.getfield 28, 3) := by decide +kernel
theorem dX6_liveDays_51 : decode cX6_liveDays 51 = .ok (.imul, 1) := by decide +kernel
theorem dX6_liveDays_52 : decode cX6_liveDays 52 = .ok (.sipush 13849, 3) := by decide +kernel
theorem dX6_liveDays_55 : decode cX6_liveDays 55 = .ok (.iadd, 1) := by decide +kernel
theorem dX6_liveDays_56 : decode cX6_liveDays 56 = .ok (.ldc 49, 2) := by decide +kernel
theorem dX6_liveDays_58 : decode cX6_liveDays 58 = .ok (.irem, 1) := by decide +kernel
theorem dX6_liveDays_59 : decode cX6_liveDays 59 = .ok (.putfield 28, 3) := by decide +kernel
theorem dX6_liveDays_62 : decode cX6_liveDays 62 = .ok (.aload_n 0, 1) := by decide +kernel
theorem dX6_liveDays_63 : decode cX6_liveDays 63 = .ok (.iload 7, 2) := by decide +kernel
theorem dX6_liveDays_65 : decode cX6_liveDays 65 = .ok (.iload 6, 2) := by decide +kernel
theorem dX6_liveDays_67 : decode cX6_liveDays 67 = .ok (.aload_n 3, 1) := by decide +kernel
theorem dX6_liveDays_68 : decode cX6_liveDays 68 = .ok (.aload 4, 2) := by decide +kernel
theorem dX6_liveDays_70 : decode cX6_liveDays 70 = .ok (.invokevirtual 50, 3) := by decide +kernel
theorem dX6_liveDays_73 : decode cX6_liveDays 73 = .ok (.aload_n 0, 1) := by decide +kernel
theorem dX6_liveDays_74 : decode cX6_liveDays 74 = .ok (.iload 6, 2) := by decide +kernel
theorem dX6_liveDays_76 : decode cX6_liveDays 76 = .ok (.aload_n 3, 1) := by decide +kernel
theorem dX6_liveDays_77 : decode cX6_liveDays 77 = .ok (.aload 4, 2) := by decide +kernel
theorem dX6_liveDays_79 : decode cX6_liveDays 79 = .ok (.invokevirtual 54, 3) := by decide +kernel
theorem dX6_liveDays_82 : decode cX6_liveDays 82 = .ok (.iinc 6 1, 3) := by decide +kernel
theorem dX6_liveDays_85 : decode cX6_liveDays 85 = .ok (.goto (-63), 3) := by decide +kernel
theorem dX6_liveDays_88 : decode cX6_liveDays 88 = .ok (.aload_n 0, 1) := by decide +kernel
theorem dX6_liveDays_89 : decode cX6_liveDays 89 = .ok (.dup, 1) := by decide +kernel
theorem dX6_liveDays_90 : decode cX6_liveDays 90 = .ok (.getfield 25, 3) := by decide +kernel
theorem dX6_liveDays_93 : decode cX6_liveDays 93 = .ok (.iconst 1, 1) := by decide +kernel
theorem dX6_liveDays_94 : decode cX6_liveDays 94 = .ok (.iadd, 1) := by decide +kernel
theorem dX6_liveDays_95 : decode cX6_liveDays 95 = .ok (.putfield 25, 3) := by decide +kernel
theorem dX6_liveDays_98 : decode cX6_liveDays 98 = .ok (.iinc 5 1, 3) := by decide +kernel
theorem dX6_liveDays_101 : decode cX6_liveDays 101 = .ok (.goto (-98), 3) := by decide +kernel
theorem dX6_liveDays_104 : decode cX6_liveDays 104 = .ok (.return_, 1) := by decide +kernel
theorem dX6_carry_0 : decode cX6_carry 0 = .ok (.aload_n 0, 1) := by decide +kernel
theorem dX6_carry_1 : decode cX6_carry 1 = .ok (.getfield 15, 3) := by decide +kernel
theorem dX6_carry_4 : decode cX6_carry 4 = .ok (.iload_n 1, 1) := by decide +kernel
theorem dX6_carry_5 : decode cX6_carry 5 = .ok (.if_icmp .ne 4, 3) := by decide +kernel
theorem dX6_carry_8 : decode cX6_carry 8 = .ok (.return_, 1) := by decide +kernel
theorem dX6_carry_9 : decode cX6_carry 9 = .ok (.aload_n 0, 1) := by decide +kernel
theorem dX6_carry_10 : decode cX6_carry 10 = .ok (.aload 4, 2) := by decide +kernel
theorem dX6_carry_12 : decode cX6_carry 12 = .ok (.iload_n 1, 1) := by decide +kernel
theorem dX6_carry_13 : decode cX6_carry 13 = .ok (.iload_n 2, 1) := by decide +kernel
theorem dX6_carry_14 : decode cX6_carry 14 = .ok (.aload_n 3, 1) := by decide +kernel
theorem dX6_carry_15 : decode cX6_carry 15 = .ok (.iload_n 1, 1) := by decide +kernel
theorem dX6_carry_16 : decode cX6_carry 16 = .ok (.iload_n 2, 1) := by decide +kernel
theorem dX6_carry_17 : decode cX6_carry 17 = .ok (.invokevirtual 58, 3) := by decide +kernel
theorem dX6_carry_20 : decode cX6_carry 20 = .ok (.invokevirtual 62, 3) := by decide +kernel
theorem dX6_carry_23 : decode cX6_carry 23 = .ok (.aload 4, 2) := by decide +kernel
theorem dX6_carry_25 : decode cX6_carry 25 = .ok (.invokevirtual 66, 3) := by decide +kernel
theorem dX6_carry_28 : decode cX6_carry 28 = .ok (.ifCond .ne 33, 3) := by decide +kernel
theorem dX6_carry_31 : decode cX6_carry 31 = .ok (.aload_n 0, 1) := by decide +kernel
theorem dX6_carry_32 : decode cX6_carry 32 = .ok (.sipush 9999, 3) := by decide +kernel
theorem dX6_carry_35 : decode cX6_carry 35 = .ok (.aload_n 0, 1) := by decide +kernel
theorem dX6_carry_36 : decode cX6_carry 36 = .ok (.getfield 22, 3) := by decide +kernel
theorem dX6_carry_39 : decode cX6_carry 39 = .ok (.aload 4, 2) := by decide +kernel
theorem dX6_carry_41 : decode cX6_carry 41 = .ok (.bipush 99, 2) := by decide +kernel
theorem dX6_carry_43 : decode cX6_carry 43 = .ok (.bipush 9, 2) := by decide +kernel
theorem dX6_carry_45 : decode cX6_carry 45 = .ok (.iconst 0, 1) := by decide +kernel
theorem dX6_carry_46 : decode cX6_carry 46 = .ok (.invokevirtual 72, 3) := by decide +kernel
theorem dX6_carry_49 : decode cX6_carry 49 = .ok (.iadd, 1) := by decide +kernel
theorem dX6_carry_50 : decode cX6_carry 50 = .ok (.invokestatic 76, 3) := by decide +kernel
theorem dX6_carry_53 : decode cX6_carry 53 = .ok (.putfield 22, 3) := by decide +kernel
theorem dX6_carry_56 : decode cX6_carry 56 = .ok (.aload_n 0, 1) := by decide +kernel
theorem dX6_carry_57 : decode cX6_carry 57 = .ok (.iload_n 1, 1) := by decide +kernel
theorem dX6_carry_58 : decode cX6_carry 58 = .ok (.putfield 15, 3) := by decide +kernel
theorem dX6_carry_61 : decode cX6_carry 61 = .ok (.return_, 1) := by decide +kernel
theorem dX6_lookThrough_0 : decode cX6_lookThrough 0 = .ok (.aload_n 0, 1) := by decide +kernel
theorem dX6_lookThrough_1 : decode cX6_lookThrough 1 = .ok (.getfield 15, 3) := by decide +kernel
theorem dX6_lookThrough_4 : decode cX6_lookThrough 4 = .ok (.ifCond .lt 12, 3) := by decide +kernel
theorem dX6_lookThrough_7 : decode cX6_lookThrough 7 = .ok (.aload_n 0, 1) := by decide +kernel
theorem dX6_lookThrough_8 : decode cX6_lookThrough 8 = .ok (.getfield 15, 3) := by decide +kernel
theorem dX6_lookThrough_11 : decode cX6_lookThrough 11 = .ok (.bipush 16, 2) := by decide +kernel
theorem dX6_lookThrough_13 : decode cX6_lookThrough 13 = .ok (.if_icmp .lt 4, 3) := by decide +kernel
theorem dX6_lookThrough_16 : decode cX6_lookThrough 16 = .ok (.return_, 1) := by decide +kernel
theorem dX6_lookThrough_17 : decode cX6_lookThrough 17 = .ok (.aload_n 2, 1) := by decide +kernel
theorem dX6_lookThrough_18 : decode cX6_lookThrough 18 = .ok (.aload_n 0, 1) := by decide +kernel
theorem dX6_lookThrough_19 : decode cX6_lookThrough 19 = .ok (.getfield 15, 3) := by decide +kernel
theorem dX6_lookThrough_22 : decode cX6_lookThrough 22 = .ok (.iload_n 1, 1) := by decide +kernel
theorem dX6_lookThrough_23 : decode cX6_lookThrough 23 = .ok (.invokevirtual 58, 3) := by decide +kernel
theorem dX6_lookThrough_26 : decode cX6_lookThrough 26 = .ok (.istore 4, 2) := by decide +kernel
theorem dX6_lookThrough_28 : decode cX6_lookThrough 28 = .ok (.aload_n 0, 1) := by decide +kernel
theorem dX6_lookThrough_29 : decode cX6_lookThrough 29 = .ok (.aload_n 3, 1) := by decide +kernel
theorem dX6_lookThrough_30 : decode cX6_lookThrough 30 = .ok (.aload_n 0, 1) := by decide +kernel
theorem dX6_lookThrough_31 : decode cX6_lookThrough 31 = .ok (.getfield 15, 3) := by decide +kernel
theorem dX6_lookThrough_34 : decode cX6_lookThrough 34 = .ok (.iload_n 1, 1) := by decide +kernel
theorem dX6_lookThrough_35 : decode cX6_lookThrough 35 = .ok (.iload 4, 2) := by decide +kernel
theorem dX6_lookThrough_37 : decode cX6_lookThrough 37 = .ok (.invokevirtual 62, 3) := by decide +kernel
theorem dX6_lookThrough_40 : decode cX6_lookThrough 40 = .ok (.iload 4, 2) := by decide +kernel
theorem dX6_lookThrough_42 : decode cX6_lookThrough 42 = .ok (.invokestatic 81, 3) := by decide +kernel
theorem dX6_lookThrough_45 : decode cX6_lookThrough 45 = .ok (.aload_n 0, 1) := by decide +kernel
theorem dX6_lookThrough_46 : decode cX6_lookThrough 46 = .ok (.getfield 19, 3) := by decide +kernel
theorem dX6_lookThrough_49 : decode cX6_lookThrough 49 = .ok (.invokestatic 81, 3) := by decide +kernel
theorem dX6_lookThrough_52 : decode cX6_lookThrough 52 = .ok (.iadd, 1) := by decide +kernel
theorem dX6_lookThrough_53 : decode cX6_lookThrough 53 = .ok (.istore 5, 2) := by decide +kernel
theorem dX6_lookThrough_55 : decode cX6_lookThrough 55 = .ok (.aload_n 0, 1) := by decide +kernel
theorem dX6_lookThrough_56 : decode cX6_lookThrough 56 = .ok (.getfield 9, 3) := by decide +kernel
theorem dX6_lookThrough_59 : decode cX6_lookThrough 59 = .ok (.aload_n 0, 1) := by decide +kernel
theorem dX6_lookThrough_60 : decode cX6_lookThrough 60 = .ok (.getfield 15, 3) := by decide +kernel
theorem dX6_lookThrough_63 : decode cX6_lookThrough 63 = .ok (.ldc 86, 2) := by decide +kernel
theorem dX6_lookThrough_65 : decode cX6_lookThrough 65 = .ok (.aload_n 0, 1) := by decide +kernel
theorem dX6_lookThrough_66 : decode cX6_lookThrough 66 = .ok (.getfield 9, 3) := by decide +kernel
theorem dX6_lookThrough_69 : decode cX6_lookThrough 69 = .ok (.aload_n 0, 1) := by decide +kernel
theorem dX6_lookThrough_70 : decode cX6_lookThrough 70 = .ok (.getfield 15, 3) := by decide +kernel
theorem dX6_lookThrough_73 : decode cX6_lookThrough 73 = .ok (.iaload, 1) := by decide +kernel
theorem dX6_lookThrough_74 : decode cX6_lookThrough 74 = .ok (.aload_n 3, 1) := by decide +kernel
theorem dX6_lookThrough_75 : decode cX6_lookThrough 75 = .ok (.bipush 106, 2) := by decide +kernel
theorem dX6_lookThrough_77 : decode cX6_lookThrough 77 = .ok (.bipush 99, 2) := by decide +kernel
theorem dX6_lookThrough_79 : decode cX6_lookThrough 79 = .ok (.iload 5, 2) := by decide +kernel
theorem dX6_lookThrough_81 : decode cX6_lookThrough 81 = .ok (.invokevirtual 72, 3) := by decide +kernel
theorem dX6_lookThrough_84 : decode cX6_lookThrough 84 = .ok (.iadd, 1) := by decide +kernel
theorem dX6_lookThrough_85 : decode cX6_lookThrough 85 = .ok (.invokestatic 76, 3) := by decide +kernel
theorem dX6_lookThrough_88 : decode cX6_lookThrough 88 = .ok (.iastore, 1) := by decide +kernel
theorem dX6_lookThrough_89 : decode cX6_lookThrough 89 = .ok (.iload 4, 2) := by decide +kernel
theorem dX6_lookThrough_91 : decode cX6_lookThrough 91 = .ok (.ifCond .eq 9, 3) := by decide +kernel
theorem dX6_lookThrough_94 : decode cX6_lookThrough 94 = .ok (.aload_n 0, 1) := by decide +kernel
theorem dX6_lookThrough_95 : decode cX6_lookThrough 95 = .ok (.iload 4, 2) := by decide +kernel
theorem dX6_lookThrough_97 : decode cX6_lookThrough 97 = .ok (.putfield 19, 3) := by decide +kernel
theorem dX6_lookThrough_100 : decode cX6_lookThrough 100 = .ok (.return_, 1) := by decide +kernel
theorem dX6_tellLaw_0 : decode cX6_tellLaw 0 = .ok (.aload_n 1, 1) := by decide +kernel
theorem dX6_tellLaw_1 : decode cX6_tellLaw 1 = .ok (.iconst 0, 1) := by decide +kernel
theorem dX6_tellLaw_2 : decode cX6_tellLaw 2 = .ok (.iload_n 2, 1) := by decide +kernel
theorem dX6_tellLaw_3 : decode cX6_tellLaw 3 = .ok (.invokevirtual 87, 3) := by decide +kernel
theorem dX6_tellLaw_6 : decode cX6_tellLaw 6 = .ok (.aload_n 1, 1) := by decide +kernel
theorem dX6_tellLaw_7 : decode cX6_tellLaw 7 = .ok (.iconst 1, 1) := by decide +kernel
theorem dX6_tellLaw_8 : decode cX6_tellLaw 8 = .ok (.aload_n 0, 1) := by decide +kernel
theorem dX6_tellLaw_9 : decode cX6_tellLaw 9 = .ok (.getfield 15, 3) := by decide +kernel
theorem dX6_tellLaw_12 : decode cX6_tellLaw 12 = .ok (.iconst (-1), 1) := by decide +kernel
theorem dX6_tellLaw_13 : decode cX6_tellLaw 13 = .ok (.if_icmp .ne 8, 3) := by decide +kernel
theorem dX6_tellLaw_16 : decode cX6_tellLaw 16 = .ok (.bipush 16, 2) := by decide +kernel
theorem dX6_tellLaw_18 : decode cX6_tellLaw 18 = .ok (.goto 7, 3) := by decide +kernel
theorem dX6_tellLaw_21 : decode cX6_tellLaw 21 = .ok (.aload_n 0, 1) := by decide +kernel
theorem dX6_tellLaw_22 : decode cX6_tellLaw 22 = .ok (.getfield 15, 3) := by decide +kernel
theorem dX6_tellLaw_25 : decode cX6_tellLaw 25 = .ok (.invokevirtual 87, 3) := by decide +kernel
theorem dX6_tellLaw_28 : decode cX6_tellLaw 28 = .ok (.aload_n 1, 1) := by decide +kernel
theorem dX6_tellLaw_29 : decode cX6_tellLaw 29 = .ok (.iconst 2, 1) := by decide +kernel
theorem dX6_tellLaw_30 : decode cX6_tellLaw 30 = .ok (.iload_n 3, 1) := by decide +kernel
theorem dX6_tellLaw_31 : decode cX6_tellLaw 31 = .ok (.invokevirtual 87, 3) := by decide +kernel
theorem dX6_tellLaw_34 : decode cX6_tellLaw 34 = .ok (.aload_n 1, 1) := by decide +kernel
theorem dX6_tellLaw_35 : decode cX6_tellLaw 35 = .ok (.iconst 3, 1) := by decide +kernel
theorem dX6_tellLaw_36 : decode cX6_tellLaw 36 = .ok (.aload_n 0, 1) := by decide +kernel
theorem dX6_tellLaw_37 : decode cX6_tellLaw 37 = .ok (.getfield 15, 3) := by decide +kernel
theorem dX6_tellLaw_40 : decode cX6_tellLaw 40 = .ok (.iconst (-1), 1) := by decide +kernel
theorem dX6_tellLaw_41 : decode cX6_tellLaw 41 = .ok (.if_icmp .ne 7, 3) := by decide +kernel
theorem dX6_tellLaw_44 : decode cX6_tellLaw 44 = .ok (.iconst 0, 1) := by decide +kernel
theorem dX6_tellLaw_45 : decode cX6_tellLaw 45 = .ok (.goto 12, 3) := by decide +kernel
theorem dX6_tellLaw_48 : decode cX6_tellLaw 48 = .ok (.iload_n 2, 1) := by decide +kernel
theorem dX6_tellLaw_49 : decode cX6_tellLaw 49 = .ok (.aload_n 0, 1) := by decide +kernel
theorem dX6_tellLaw_50 : decode cX6_tellLaw 50 = .ok (.getfield 15, 3) := by decide +kernel
theorem dX6_tellLaw_53 : decode cX6_tellLaw 53 = .ok (.isub, 1) := by decide +kernel
theorem dX6_tellLaw_54 : decode cX6_tellLaw 54 = .ok (.invokestatic 91, 3) := by decide +kernel
theorem dX6_tellLaw_57 : decode cX6_tellLaw 57 = .ok (.invokevirtual 87, 3) := by decide +kernel
theorem dX6_tellLaw_60 : decode cX6_tellLaw 60 = .ok (.aload_n 1, 1) := by decide +kernel
theorem dX6_tellLaw_61 : decode cX6_tellLaw 61 = .ok (.iconst 4, 1) := by decide +kernel
theorem dX6_tellLaw_62 : decode cX6_tellLaw 62 = .ok (.iload 4, 2) := by decide +kernel
theorem dX6_tellLaw_64 : decode cX6_tellLaw 64 = .ok (.invokestatic 81, 3) := by decide +kernel
theorem dX6_tellLaw_67 : decode cX6_tellLaw 67 = .ok (.invokevirtual 87, 3) := by decide +kernel
theorem dX6_tellLaw_70 : decode cX6_tellLaw 70 = .ok (.aload_n 1, 1) := by decide +kernel
theorem dX6_tellLaw_71 : decode cX6_tellLaw 71 = .ok (.iconst 5, 1) := by decide +kernel
theorem dX6_tellLaw_72 : decode cX6_tellLaw 72 = .ok (.aload_n 0, 1) := by decide +kernel
theorem dX6_tellLaw_73 : decode cX6_tellLaw 73 = .ok (.getfield 19, 3) := by decide +kernel
theorem dX6_tellLaw_76 : decode cX6_tellLaw 76 = .ok (.invokestatic 81, 3) := by decide +kernel
theorem dX6_tellLaw_79 : decode cX6_tellLaw 79 = .ok (.invokevirtual 87, 3) := by decide +kernel
theorem dX6_tellLaw_82 : decode cX6_tellLaw 82 = .ok (.aload_n 1, 1) := by decide +kernel
theorem dX6_tellLaw_83 : decode cX6_tellLaw 83 = .ok (.bipush 6, 2) := by decide +kernel
theorem dX6_tellLaw_85 : decode cX6_tellLaw 85 = .ok (.aload_n 0, 1) := by decide +kernel
theorem dX6_tellLaw_86 : decode cX6_tellLaw 86 = .ok (.getfield 22, 3) := by decide +kernel
theorem dX6_tellLaw_89 : decode cX6_tellLaw 89 = .ok (.bipush 100, 2) := by decide +kernel
theorem dX6_tellLaw_91 : decode cX6_tellLaw 91 = .ok (.irem, 1) := by decide +kernel
theorem dX6_tellLaw_92 : decode cX6_tellLaw 92 = .ok (.invokevirtual 87, 3) := by decide +kernel
theorem dX6_tellLaw_95 : decode cX6_tellLaw 95 = .ok (.aload_n 1, 1) := by decide +kernel
theorem dX6_tellLaw_96 : decode cX6_tellLaw 96 = .ok (.bipush 7, 2) := by decide +kernel
theorem dX6_tellLaw_98 : decode cX6_tellLaw 98 = .ok (.aload_n 0, 1) := by decide +kernel
theorem dX6_tellLaw_99 : decode cX6_tellLaw 99 = .ok (.getfield 25, 3) := by decide +kernel
theorem dX6_tellLaw_102 : decode cX6_tellLaw 102 = .ok (.bipush 100, 2) := by decide +kernel
theorem dX6_tellLaw_104 : decode cX6_tellLaw 104 = .ok (.irem, 1) := by decide +kernel
theorem dX6_tellLaw_105 : decode cX6_tellLaw 105 = .ok (.invokevirtual 87, 3) := by decide +kernel
theorem dX6_tellLaw_108 : decode cX6_tellLaw 108 = .ok (.aload_n 1, 1) := by decide +kernel
theorem dX6_tellLaw_109 : decode cX6_tellLaw 109 = .ok (.bipush 8, 2) := by decide +kernel
theorem dX6_tellLaw_111 : decode cX6_tellLaw 111 = .ok (.aload_n 0, 1) := by decide +kernel
theorem dX6_tellLaw_112 : decode cX6_tellLaw 112 = .ok (.getfield 28, 3) := by decide +kernel
theorem dX6_tellLaw_115 : decode cX6_tellLaw 115 = .ok (.bipush 10, 2) := by decide +kernel
theorem dX6_tellLaw_117 : decode cX6_tellLaw 117 = .ok (.irem, 1) := by decide +kernel
theorem dX6_tellLaw_118 : decode cX6_tellLaw 118 = .ok (.invokevirtual 87, 3) := by decide +kernel
theorem dX6_tellLaw_121 : decode cX6_tellLaw 121 = .ok (.return_, 1) := by decide +kernel
theorem dX7_init_0 : decode cX7_init 0 = .ok (.aload_n 0, 1) := by decide +kernel
theorem dX7_init_1 : decode cX7_init 1 = .ok (.invokespecial 1, 3) := by decide +kernel
theorem dX7_init_4 : decode cX7_init 4 = .ok (.aload_n 0, 1) := by decide +kernel
theorem dX7_init_5 : decode cX7_init 5 = .ok (.sipush 260, 3) := by decide +kernel
theorem dX7_init_8 : decode cX7_init 8 = .ok (.newarray .int, 2) := by decide +kernel
theorem dX7_init_10 : decode cX7_init 10 = .ok (.putfield 9, 3) := by decide +kernel
theorem dX7_init_13 : decode cX7_init 13 = .ok (.aload_n 0, 1) := by decide +kernel
theorem dX7_init_14 : decode cX7_init 14 = .ok (.iconst 0, 1) := by decide +kernel
theorem dX7_init_15 : decode cX7_init 15 = .ok (.putfield 13, 3) := by decide +kernel
theorem dX7_init_18 : decode cX7_init 18 = .ok (.return_, 1) := by decide +kernel
theorem dX7_size_0 : decode cX7_size 0 = .ok (.aload_n 0, 1) := by decide +kernel
theorem dX7_size_1 : decode cX7_size 1 = .ok (.getfield 13, 3) := by decide +kernel
theorem dX7_size_4 : decode cX7_size 4 = .ok (.ireturn, 1) := by decide +kernel
theorem dX7_holds_0 : decode cX7_holds 0 = .ok (.iload_n 1, 1) := by decide +kernel
theorem dX7_holds_1 : decode cX7_holds 1 = .ok (.aload_n 0, 1) := by decide +kernel
theorem dX7_holds_2 : decode cX7_holds 2 = .ok (.getfield 13, 3) := by decide +kernel
theorem dX7_holds_5 : decode cX7_holds 5 = .ok (.if_icmp .gt 7, 3) := by decide +kernel
theorem dX7_holds_8 : decode cX7_holds 8 = .ok (.iconst 1, 1) := by decide +kernel
theorem dX7_holds_9 : decode cX7_holds 9 = .ok (.goto 4, 3) := by decide +kernel
theorem dX7_holds_12 : decode cX7_holds 12 = .ok (.iconst 0, 1) := by decide +kernel
theorem dX7_holds_13 : decode cX7_holds 13 = .ok (.ireturn, 1) := by decide +kernel
theorem dX7_hasRoom_0 : decode cX7_hasRoom 0 = .ok (.aload_n 0, 1) := by decide +kernel
theorem dX7_hasRoom_1 : decode cX7_hasRoom 1 = .ok (.getfield 13, 3) := by decide +kernel
theorem dX7_hasRoom_4 : decode cX7_hasRoom 4 = .ok (.bipush 20, 2) := by decide +kernel
theorem dX7_hasRoom_6 : decode cX7_hasRoom 6 = .ok (.iadd, 1) := by decide +kernel
theorem dX7_hasRoom_7 : decode cX7_hasRoom 7 = .ok (.sipush 260, 3) := by decide +kernel
theorem dX7_hasRoom_10 : decode cX7_hasRoom 10 = .ok (.if_icmp .gt 7, 3) := by decide +kernel
theorem dX7_hasRoom_13 : decode cX7_hasRoom 13 = .ok (.iconst 1, 1) := by decide +kernel
theorem dX7_hasRoom_14 : decode cX7_hasRoom 14 = .ok (.goto 4, 3) := by decide +kernel
theorem dX7_hasRoom_17 : decode cX7_hasRoom 17 = .ok (.iconst 0, 1) := by decide +kernel
theorem dX7_hasRoom_18 : decode cX7_hasRoom 18 = .ok (.ireturn, 1) := by decide +kernel
theorem dX7_addInt_0 : decode cX7_addInt 0 = .ok (.bipush 24, 2) := by decide +kernel
theorem dX7_addInt_2 : decode cX7_addInt 2 = .ok (.istore_n 2, 1) := by decide +kernel
theorem dX7_addInt_3 : decode cX7_addInt 3 = .ok (.iload_n 2, 1) := by decide +kernel
theorem dX7_addInt_4 : decode cX7_addInt 4 = .ok (.ifCond .lt 45, 3) := by decide +kernel
theorem dX7_addInt_7 : decode cX7_addInt 7 = .ok (.aload_n 0, 1) := by decide +kernel
theorem dX7_addInt_8 : decode cX7_addInt 8 = .ok (.getfield 13, 3) := by decide +kernel
theorem dX7_addInt_11 : decode cX7_addInt 11 = .ok (.sipush 260, 3) := by decide +kernel
theorem dX7_addInt_14 : decode cX7_addInt 14 = .ok (.if_icmp .ge 29, 3) := by decide +kernel
theorem dX7_addInt_17 : decode cX7_addInt 17 = .ok (.aload_n 0, 1) := by decide +kernel
theorem dX7_addInt_18 : decode cX7_addInt 18 = .ok (.getfield 9, 3) := by decide +kernel
theorem dX7_addInt_21 : decode cX7_addInt 21 = .ok (.aload_n 0, 1) := by decide +kernel
theorem dX7_addInt_22 : decode cX7_addInt 22 = .ok (.getfield 13, 3) := by decide +kernel
theorem dX7_addInt_25 : decode cX7_addInt 25 = .ok (.iload_n 1, 1) := by decide +kernel
theorem dX7_addInt_26 : decode cX7_addInt 26 = .ok (.iload_n 2, 1) := by decide +kernel
theorem dX7_addInt_27 : decode cX7_addInt 27 = .ok (.ishr, 1) := by decide +kernel
theorem dX7_addInt_28 : decode cX7_addInt 28 = .ok (.sipush 255, 3) := by decide +kernel
theorem dX7_addInt_31 : decode cX7_addInt 31 = .ok (.iand, 1) := by decide +kernel
theorem dX7_addInt_32 : decode cX7_addInt 32 = .ok (.iastore, 1) := by decide +kernel
theorem dX7_addInt_33 : decode cX7_addInt 33 = .ok (.aload_n 0, 1) := by decide +kernel
theorem dX7_addInt_34 : decode cX7_addInt 34 = .ok (.dup, 1) := by decide +kernel
theorem dX7_addInt_35 : decode cX7_addInt 35 = .ok (.getfield 13, 3) := by decide +kernel
theorem dX7_addInt_38 : decode cX7_addInt 38 = .ok (.iconst 1, 1) := by decide +kernel
theorem dX7_addInt_39 : decode cX7_addInt 39 = .ok (.iadd, 1) := by decide +kernel
theorem dX7_addInt_40 : decode cX7_addInt 40 = .ok (.putfield 13, 3) := by decide +kernel
theorem dX7_addInt_43 : decode cX7_addInt 43 = .ok (.iinc 2 (-8), 3) := by decide +kernel
theorem dX7_addInt_46 : decode cX7_addInt 46 = .ok (.goto (-43), 3) := by decide +kernel
theorem dX7_addInt_49 : decode cX7_addInt 49 = .ok (.return_, 1) := by decide +kernel
theorem dX7_byteAt_0 : decode cX7_byteAt 0 = .ok (.iload_n 1, 1) := by decide +kernel
theorem dX7_byteAt_1 : decode cX7_byteAt 1 = .ok (.ifCond .lt 20, 3) := by decide +kernel
theorem dX7_byteAt_4 : decode cX7_byteAt 4 = .ok (.iload_n 1, 1) := by decide +kernel
theorem dX7_byteAt_5 : decode cX7_byteAt 5 = .ok (.aload_n 0, 1) := by decide +kernel
theorem dX7_byteAt_6 : decode cX7_byteAt 6 = .ok (.getfield 13, 3) := by decide +kernel
theorem dX7_byteAt_9 : decode cX7_byteAt 9 = .ok (.if_icmp .ge 12, 3) := by decide +kernel
theorem dX7_byteAt_12 : decode cX7_byteAt 12 = .ok (.aload_n 0, 1) := by decide +kernel
theorem dX7_byteAt_13 : decode cX7_byteAt 13 = .ok (.getfield 9, 3) := by decide +kernel
theorem dX7_byteAt_16 : decode cX7_byteAt 16 = .ok (.iload_n 1, 1) := by decide +kernel
theorem dX7_byteAt_17 : decode cX7_byteAt 17 = .ok (.iaload, 1) := by decide +kernel
theorem dX7_byteAt_18 : decode cX7_byteAt 18 = .ok (.goto 4, 3) := by decide +kernel
theorem dX7_byteAt_21 : decode cX7_byteAt 21 = .ok (.iconst 0, 1) := by decide +kernel
theorem dX7_byteAt_22 : decode cX7_byteAt 22 = .ok (.ireturn, 1) := by decide +kernel
theorem dX7_clear_0 : decode cX7_clear 0 = .ok (.aload_n 0, 1) := by decide +kernel
theorem dX7_clear_1 : decode cX7_clear 1 = .ok (.iconst 0, 1) := by decide +kernel
theorem dX7_clear_2 : decode cX7_clear 2 = .ok (.putfield 13, 3) := by decide +kernel
theorem dX7_clear_5 : decode cX7_clear 5 = .ok (.return_, 1) := by decide +kernel
theorem dX8_init_0 : decode cX8_init 0 = .ok (.aload_n 0, 1) := by decide +kernel
theorem dX8_init_1 : decode cX8_init 1 = .ok (.invokespecial 3, 3) := by decide +kernel
theorem dX8_init_4 : decode cX8_init 4 = .ok (.aload_n 0, 1) := by decide +kernel
theorem dX8_init_5 : decode cX8_init 5 = .ok (.bipush 16, 2) := by decide +kernel
theorem dX8_init_7 : decode cX8_init 7 = .ok (.newarray .int, 2) := by decide +kernel
theorem dX8_init_9 : decode cX8_init 9 = .ok (.putfield 9, 3) := by decide +kernel
theorem dX8_init_12 : decode cX8_init 12 = .ok (.aload_n 0, 1) := by decide +kernel
theorem dX8_init_13 : decode cX8_init 13 = .ok (.bipush 16, 2) := by decide +kernel
theorem dX8_init_15 : decode cX8_init 15 = .ok (.newarray .int, 2) := by decide +kernel
theorem dX8_init_17 : decode cX8_init 17 = .ok (.putfield 15, 3) := by decide +kernel
theorem dX8_init_20 : decode cX8_init 20 = .ok (.aload_n 0, 1) := by decide +kernel
theorem dX8_init_21 : decode cX8_init 21 = .ok (.bipush 16, 2) := by decide +kernel
theorem dX8_init_23 : decode cX8_init 23 = .ok (.newarray .int, 2) := by decide +kernel
theorem dX8_init_25 : decode cX8_init 25 = .ok (.putfield 18, 3) := by decide +kernel
theorem dX8_init_28 : decode cX8_init 28 = .ok (.aload_n 0, 1) := by decide +kernel
theorem dX8_init_29 : decode cX8_init 29 = .ok (.bipush 16, 2) := by decide +kernel
theorem dX8_init_31 : decode cX8_init 31 = .ok (.newarray .int, 2) := by decide +kernel
theorem dX8_init_33 : decode cX8_init 33 = .ok (.putfield 21, 3) := by decide +kernel
theorem dX8_init_36 : decode cX8_init 36 = .ok (.aload_n 0, 1) := by decide +kernel
theorem dX8_init_37 : decode cX8_init 37 = .ok (.sipush 192, 3) := by decide +kernel
theorem dX8_init_40 : decode cX8_init 40 = .ok (.newarray .int, 2) := by decide +kernel
theorem dX8_init_42 : decode cX8_init 42 = .ok (.putfield 24, 3) := by decide +kernel
theorem dX8_init_45 : decode cX8_init 45 = .ok (.aload_n 0, 1) := by decide +kernel
theorem dX8_init_46 : decode cX8_init 46 = .ok (.bipush 16, 2) := by decide +kernel
theorem dX8_init_48 : decode cX8_init 48 = .ok (.newarray .int, 2) := by decide +kernel
theorem dX8_init_50 : decode cX8_init 50 = .ok (.putfield 27, 3) := by decide +kernel
theorem dX8_init_53 : decode cX8_init 53 = .ok (.aload_n 0, 1) := by decide +kernel
theorem dX8_init_54 : decode cX8_init 54 = .ok (.bipush 16, 2) := by decide +kernel
theorem dX8_init_56 : decode cX8_init 56 = .ok (.newarray .int, 2) := by decide +kernel
theorem dX8_init_58 : decode cX8_init 58 = .ok (.putfield 30, 3) := by decide +kernel
theorem dX8_init_61 : decode cX8_init 61 = .ok (.aload_n 0, 1) := by decide +kernel
theorem dX8_init_62 : decode cX8_init 62 = .ok (.iconst 0, 1) := by decide +kernel
theorem dX8_init_63 : decode cX8_init 63 = .ok (.putfield 33, 3) := by decide +kernel
theorem dX8_init_66 : decode cX8_init 66 = .ok (.aload_n 0, 1) := by decide +kernel
theorem dX8_init_67 : decode cX8_init 67 = .ok (.iconst 0, 1) := by decide +kernel
theorem dX8_init_68 : decode cX8_init 68 = .ok (.putfield 37, 3) := by decide +kernel
theorem dX8_init_71 : decode cX8_init 71 = .ok (.return_, 1) := by decide +kernel
theorem dX8_clear_0 : decode cX8_clear 0 = .ok (.aload_n 0, 1) := by decide +kernel
theorem dX8_clear_1 : decode cX8_clear 1 = .ok (.iconst 0, 1) := by decide +kernel
theorem dX8_clear_2 : decode cX8_clear 2 = .ok (.putfield 33, 3) := by decide +kernel
theorem dX8_clear_5 : decode cX8_clear 5 = .ok (.aload_n 0, 1) := by decide +kernel
theorem dX8_clear_6 : decode cX8_clear 6 = .ok (.iconst 0, 1) := by decide +kernel
theorem dX8_clear_7 : decode cX8_clear 7 = .ok (.putfield 37, 3) := by decide +kernel
theorem dX8_clear_10 : decode cX8_clear 10 = .ok (.return_, 1) := by decide +kernel
theorem dX8_hasHouse_0 : decode cX8_hasHouse 0 = .ok (.iload_n 1, 1) := by decide +kernel
theorem dX8_hasHouse_1 : decode cX8_hasHouse 1 = .ok (.ifCond .lt 25, 3) := by decide +kernel
theorem dX8_hasHouse_4 : decode cX8_hasHouse 4 = .ok (.iload_n 1, 1) := by decide +kernel
theorem dX8_hasHouse_5 : decode cX8_hasHouse 5 = .ok (.bipush 16, 2) := by decide +kernel
theorem dX8_hasHouse_7 : decode cX8_hasHouse 7 = .ok (.if_icmp .ge 19, 3) := by decide +kernel
theorem dX8_hasHouse_10 : decode cX8_hasHouse 10 = .ok (.aload_n 0, 1) := by decide +kernel
theorem dX8_hasHouse_11 : decode cX8_hasHouse 11 = .ok (.getfield 33, 3) := by decide +kernel
theorem dX8_hasHouse_14 : decode cX8_hasHouse 14 = .ok (.iload_n 1, 1) := by decide +kernel
theorem dX8_hasHouse_15 : decode cX8_hasHouse 15 = .ok (.ishr, 1) := by decide +kernel
theorem dX8_hasHouse_16 : decode cX8_hasHouse 16 = .ok (.iconst 1, 1) := by decide +kernel
theorem dX8_hasHouse_17 : decode cX8_hasHouse 17 = .ok (.iand, 1) := by decide +kernel
theorem dX8_hasHouse_18 : decode cX8_hasHouse 18 = .ok (.iconst 1, 1) := by decide +kernel
theorem dX8_hasHouse_19 : decode cX8_hasHouse 19 = .ok (.if_icmp .ne 7, 3) := by decide +kernel
theorem dX8_hasHouse_22 : decode cX8_hasHouse 22 = .ok (.iconst 1, 1) := by decide +kernel
theorem dX8_hasHouse_23 : decode cX8_hasHouse 23 = .ok (.goto 4, 3) := by decide +kernel
theorem dX8_hasHouse_26 : decode cX8_hasHouse 26 = .ok (.iconst 0, 1) := by decide +kernel
theorem dX8_hasHouse_27 : decode cX8_hasHouse 27 = .ok (.ireturn, 1) := by decide +kernel
theorem dX8_hasThing_0 : decode cX8_hasThing 0 = .ok (.iload_n 1, 1) := by decide +kernel
theorem dX8_hasThing_1 : decode cX8_hasThing 1 = .ok (.ifCond .lt 25, 3) := by decide +kernel
theorem dX8_hasThing_4 : decode cX8_hasThing 4 = .ok (.iload_n 1, 1) := by decide +kernel
theorem dX8_hasThing_5 : decode cX8_hasThing 5 = .ok (.bipush 16, 2) := by decide +kernel
theorem dX8_hasThing_7 : decode cX8_hasThing 7 = .ok (.if_icmp .ge 19, 3) := by decide +kernel
theorem dX8_hasThing_10 : decode cX8_hasThing 10 = .ok (.aload_n 0, 1) := by decide +kernel
theorem dX8_hasThing_11 : decode cX8_hasThing 11 = .ok (.getfield 37, 3) := by decide +kernel
theorem dX8_hasThing_14 : decode cX8_hasThing 14 = .ok (.iload_n 1, 1) := by decide +kernel
theorem dX8_hasThing_15 : decode cX8_hasThing 15 = .ok (.ishr, 1) := by decide +kernel
theorem dX8_hasThing_16 : decode cX8_hasThing 16 = .ok (.iconst 1, 1) := by decide +kernel
theorem dX8_hasThing_17 : decode cX8_hasThing 17 = .ok (.iand, 1) := by decide +kernel
theorem dX8_hasThing_18 : decode cX8_hasThing 18 = .ok (.iconst 1, 1) := by decide +kernel
theorem dX8_hasThing_19 : decode cX8_hasThing 19 = .ok (.if_icmp .ne 7, 3) := by decide +kernel
theorem dX8_hasThing_22 : decode cX8_hasThing 22 = .ok (.iconst 1, 1) := by decide +kernel
theorem dX8_hasThing_23 : decode cX8_hasThing 23 = .ok (.goto 4, 3) := by decide +kernel
theorem dX8_hasThing_26 : decode cX8_hasThing 26 = .ok (.iconst 0, 1) := by decide +kernel
theorem dX8_hasThing_27 : decode cX8_hasThing 27 = .ok (.ireturn, 1) := by decide +kernel
theorem dX8_addHouse_0 : decode cX8_addHouse 0 = .ok (.iload_n 1, 1) := by decide +kernel
theorem dX8_addHouse_1 : decode cX8_addHouse 1 = .ok (.ifCond .lt 28, 3) := by decide +kernel
theorem dX8_addHouse_4 : decode cX8_addHouse 4 = .ok (.iload_n 1, 1) := by decide +kernel
theorem dX8_addHouse_5 : decode cX8_addHouse 5 = .ok (.bipush 16, 2) := by decide +kernel
theorem dX8_addHouse_7 : decode cX8_addHouse 7 = .ok (.if_icmp .ge 22, 3) := by decide +kernel
theorem dX8_addHouse_10 : decode cX8_addHouse 10 = .ok (.aload_n 0, 1) := by decide +kernel
theorem dX8_addHouse_11 : decode cX8_addHouse 11 = .ok (.dup, 1) := by decide +kernel
theorem dX8_addHouse_12 : decode cX8_addHouse 12 = .ok (.getfield 33, 3) := by decide +kernel
theorem dX8_addHouse_15 : decode cX8_addHouse 15 = .ok (.iconst 1, 1) := by decide +kernel
theorem dX8_addHouse_16 : decode cX8_addHouse 16 = .ok (.iload_n 1, 1) := by decide +kernel
theorem dX8_addHouse_17 : decode cX8_addHouse 17 = .ok (.ishl, 1) := by decide +kernel
theorem dX8_addHouse_18 : decode cX8_addHouse 18 = .ok (.ior, 1) := by decide +kernel
theorem dX8_addHouse_19 : decode cX8_addHouse 19 = .ok (.putfield 33, 3) := by decide +kernel
theorem dX8_addHouse_22 : decode cX8_addHouse 22 = .ok (.aload_n 0, 1) := by decide +kernel
theorem dX8_addHouse_23 : decode cX8_addHouse 23 = .ok (.getfield 9, 3) := by decide +kernel
theorem dX8_addHouse_26 : decode cX8_addHouse 26 = .ok (.iload_n 1, 1) := by decide +kernel
theorem dX8_addHouse_27 : decode cX8_addHouse 27 = .ok (.iload_n 2, 1) := by decide +kernel
theorem dX8_addHouse_28 : decode cX8_addHouse 28 = .ok (.iastore, 1) := by decide +kernel
theorem dX8_addHouse_29 : decode cX8_addHouse 29 = .ok (.return_, 1) := by decide +kernel
theorem dX8_addThing_0 : decode cX8_addThing 0 = .ok (.iload_n 1, 1) := by decide +kernel
theorem dX8_addThing_1 : decode cX8_addThing 1 = .ok (.ifCond .lt 43, 3) := by decide +kernel
theorem dX8_addThing_4 : decode cX8_addThing 4 = .ok (.iload_n 1, 1) := by decide +kernel
theorem dX8_addThing_5 : decode cX8_addThing 5 = .ok (.bipush 16, 2) := by decide +kernel
theorem dX8_addThing_7 : decode cX8_addThing 7 = .ok (.if_icmp .ge 37, 3) := by decide +kernel
theorem dX8_addThing_10 : decode cX8_addThing 10 = .ok (.aload_n 0, 1) := by decide +kernel
theorem dX8_addThing_11 : decode cX8_addThing 11 = .ok (.dup, 1) := by decide +kernel
theorem dX8_addThing_12 : decode cX8_addThing 12 = .ok (.getfield 37, 3) := by decide +kernel
theorem dX8_addThing_15 : decode cX8_addThing 15 = .ok (.iconst 1, 1) := by decide +kernel
theorem dX8_addThing_16 : decode cX8_addThing 16 = .ok (.iload_n 1, 1) := by decide +kernel
theorem dX8_addThing_17 : decode cX8_addThing 17 = .ok (.ishl, 1) := by decide +kernel
theorem dX8_addThing_18 : decode cX8_addThing 18 = .ok (.ior, 1) := by decide +kernel
theorem dX8_addThing_19 : decode cX8_addThing 19 = .ok (.putfield 37, 3) := by decide +kernel
theorem dX8_addThing_22 : decode cX8_addThing 22 = .ok (.aload_n 0, 1) := by decide +kernel
theorem dX8_addThing_23 : decode cX8_addThing 23 = .ok (.getfield 15, 3) := by decide +kernel
theorem dX8_addThing_26 : decode cX8_addThing 26 = .ok (.iload_n 1, 1) := by decide +kernel
theorem dX8_addThing_27 : decode cX8_addThing 27 = .ok (.iload_n 2, 1) := by decide +kernel
theorem dX8_addThing_28 : decode cX8_addThing 28 = .ok (.iastore, 1) := by decide +kernel
theorem dX8_addThing_29 : decode cX8_addThing 29 = .ok (.aload_n 0, 1) := by decide +kernel
theorem dX8_addThing_30 : decode cX8_addThing 30 = .ok (.getfield 18, 3) := by decide +kernel
theorem dX8_addThing_33 : decode cX8_addThing 33 = .ok (.iload_n 1, 1) := by decide +kernel
theorem dX8_addThing_34 : decode cX8_addThing 34 = .ok (.iload_n 3, 1) := by decide +kernel
theorem dX8_addThing_35 : decode cX8_addThing 35 = .ok (.iastore, 1) := by decide +kernel
theorem dX8_addThing_36 : decode cX8_addThing 36 = .ok (.aload_n 0, 1) := by decide +kernel
theorem dX8_addThing_37 : decode cX8_addThing 37 = .ok (.getfield 21, 3) := by decide +kernel
theorem dX8_addThing_40 : decode cX8_addThing 40 = .ok (.iload_n 1, 1) := by decide +kernel
theorem dX8_addThing_41 : decode cX8_addThing 41 = .ok (.iload 4, 2) := by decide +kernel
theorem dX8_addThing_43 : decode cX8_addThing 43 = .ok (.iastore, 1) := by decide +kernel
theorem dX8_addThing_44 : decode cX8_addThing 44 = .ok (.return_, 1) := by decide +kernel
theorem dX8_lookAround_0 : decode cX8_lookAround 0 = .ok (.iconst 0, 1) := by decide +kernel
theorem dX8_lookAround_1 : decode cX8_lookAround 1 = .ok (.istore_n 1, 1) := by decide +kernel
theorem dX8_lookAround_2 : decode cX8_lookAround 2 = .ok (.iload_n 1, 1) := by decide +kernel
theorem dX8_lookAround_3 : decode cX8_lookAround 3 = .ok (.bipush 16, 2) := by decide +kernel
theorem dX8_lookAround_5 : decode cX8_lookAround 5 = .ok (.if_icmp .ge 32, 3) := by decide +kernel
theorem dX8_lookAround_8 : decode cX8_lookAround 8 = .ok (.aload_n 0, 1) := by decide +kernel
theorem dX8_lookAround_9 : decode cX8_lookAround 9 = .ok (.getfield 27, 3) := by decide +kernel
theorem dX8_lookAround_12 : decode cX8_lookAround 12 = .ok (.iload_n 1, 1) := by decide +kernel
theorem dX8_lookAround_13 : decode cX8_lookAround 13 = .ok (.aload_n 0, 1) := by decide +kernel
theorem dX8_lookAround_14 : decode cX8_lookAround 14 = .ok (.iload_n 1, 1) := by decide +kernel
theorem dX8_lookAround_15 : decode cX8_lookAround 15 = .ok (.invokevirtual 40, 3) := by decide +kernel
theorem dX8_lookAround_18 : decode cX8_lookAround 18 = .ok (.ifCond .eq 11, 3) := by decide +kernel
theorem dX8_lookAround_21 : decode cX8_lookAround 21 = .ok (.aload_n 0, 1) := by decide +kernel
theorem dX8_lookAround_22 : decode cX8_lookAround 22 = .ok (.iload_n 1, 1) := by decide +kernel
theorem dX8_lookAround_23 : decode cX8_lookAround 23 = .ok (.invokevirtual 44, 3) := by decide +kernel
theorem dX8_lookAround_26 : decode cX8_lookAround 26 = .ok (.goto 4, 3) := by decide +kernel
theorem dX8_lookAround_29 : decode cX8_lookAround 29 = .ok (.iconst 0, 1) := by decide +kernel
theorem dX8_lookAround_30 : decode cX8_lookAround 30 = .ok (.iastore, 1) := by decide +kernel
theorem dX8_lookAround_31 : decode cX8_lookAround 31 = .ok (.iinc 1 1, 3) := by decide +kernel
theorem dX8_lookAround_34 : decode cX8_lookAround 34 = .ok (.goto (-32), 3) := by decide +kernel
theorem dX8_lookAround_37 : decode cX8_lookAround 37 = .ok (.iconst 0, 1) := by decide +kernel
theorem dX8_lookAround_38 : decode cX8_lookAround 38 = .ok (.istore_n 1, 1) := by decide +kernel
theorem dX8_lookAround_39 : decode cX8_lookAround 39 = .ok (.iload_n 1, 1) := by decide +kernel
theorem dX8_lookAround_40 : decode cX8_lookAround 40 = .ok (.bipush 12, 2) := by decide +kernel
theorem dX8_lookAround_42 : decode cX8_lookAround 42 = .ok (.if_icmp .ge 48, 3) := by decide +kernel
theorem dX8_lookAround_45 : decode cX8_lookAround 45 = .ok (.aload_n 0, 1) := by decide +kernel
theorem dX8_lookAround_46 : decode cX8_lookAround 46 = .ok (.iload_n 1, 1) := by decide +kernel
theorem dX8_lookAround_47 : decode cX8_lookAround 47 = .ok (.invokevirtual 48, 3) := by decide +kernel
theorem dX8_lookAround_50 : decode cX8_lookAround 50 = .ok (.istore_n 2, 1) := by decide +kernel
theorem dX8_lookAround_51 : decode cX8_lookAround 51 = .ok (.iconst 0, 1) := by decide +kernel
theorem dX8_lookAround_52 : decode cX8_lookAround 52 = .ok (.istore_n 3, 1) := by decide +kernel
theorem dX8_lookAround_53 : decode cX8_lookAround 53 = .ok (.iload_n 3, 1) := by decide +kernel
theorem dX8_lookAround_54 : decode cX8_lookAround 54 = .ok (.bipush 16, 2) := by decide +kernel
theorem dX8_lookAround_56 : decode cX8_lookAround 56 = .ok (.if_icmp .ge 28, 3) := by decide +kernel
theorem dX8_lookAround_59 : decode cX8_lookAround 59 = .ok (.aload_n 0, 1) := by decide +kernel
theorem dX8_lookAround_60 : decode cX8_lookAround 60 = .ok (.getfield 24, 3) := by decide +kernel
theorem dX8_lookAround_63 : decode cX8_lookAround 63 = .ok (.iload_n 3, 1) := by decide +kernel
theorem dX8_lookAround_64 : decode cX8_lookAround 64 = .ok (.bipush 12, 2) := by decide +kernel
theorem dX8_lookAround_66 : decode cX8_lookAround 66 = .ok (.imul, 1) := by decide +kernel
theorem dX8_lookAround_67 : decode cX8_lookAround 67 = .ok (.iload_n 1, 1) := by decide +kernel
theorem dX8_lookAround_68 : decode cX8_lookAround 68 = .ok (.iadd, 1) := by decide +kernel
theorem dX8_lookAround_69 : decode cX8_lookAround 69 = .ok (.aload_n 0, 1) := by decide +kernel
theorem dX8_lookAround_70 : decode cX8_lookAround 70 = .ok (.getfield 27, 3) := by decide +kernel
theorem dX8_lookAround_73 : decode cX8_lookAround 73 = .ok (.iload_n 3, 1) := by decide +kernel
theorem dX8_lookAround_74 : decode cX8_lookAround 74 = .ok (.iaload, 1) := by decide +kernel
theorem dX8_lookAround_75 : decode cX8_lookAround 75 = .ok (.iload_n 2, 1) := by decide +kernel
theorem dX8_lookAround_76 : decode cX8_lookAround 76 = .ok (.iand, 1) := by decide +kernel
theorem dX8_lookAround_77 : decode cX8_lookAround 77 = .ok (.iastore, 1) := by decide +kernel
theorem dX8_lookAround_78 : decode cX8_lookAround 78 = .ok (.iinc 3 1, 3) := by decide +kernel
theorem dX8_lookAround_81 : decode cX8_lookAround 81 = .ok (.goto (-28), 3) := by decide +kernel
theorem dX8_lookAround_84 : decode cX8_lookAround 84 = .ok (.iinc 1 1, 3) := by decide +kernel
theorem dX8_lookAround_87 : decode cX8_lookAround 87 = .ok (.goto (-48), 3) := by decide +kernel
theorem dX8_lookAround_90 : decode cX8_lookAround 90 = .ok (.return_, 1) := by decide +kernel
theorem dX8_thingsBefore_0 : decode cX8_thingsBefore 0 = .ok (.iconst 0, 1) := by decide +kernel
theorem dX8_thingsBefore_1 : decode cX8_thingsBefore 1 = .ok (.istore_n 2, 1) := by decide +kernel
theorem dX8_thingsBefore_2 : decode cX8_thingsBefore 2 = .ok (.iconst 0, 1) := by decide +kernel
theorem dX8_thingsBefore_3 : decode cX8_thingsBefore 3 = .ok (.istore_n 3, 1) := by decide +kernel
theorem dX8_thingsBefore_4 : decode cX8_thingsBefore 4 = .ok (.iload_n 3, 1) := by decide +kernel
theorem dX8_thingsBefore_5 : decode cX8_thingsBefore 5 = .ok (.bipush 16, 2) := by decide +kernel
theorem dX8_thingsBefore_7 : decode cX8_thingsBefore 7 = .ok (.if_icmp .ge 32, 3) := by decide +kernel
theorem dX8_thingsBefore_10 : decode cX8_thingsBefore 10 = .ok (.aload_n 0, 1) := by decide +kernel
theorem dX8_thingsBefore_11 : decode cX8_thingsBefore 11 = .ok (.iload_n 3, 1) := by decide +kernel
theorem dX8_thingsBefore_12 : decode cX8_thingsBefore 12 = .ok (.invokevirtual 51, 3) := by decide +kernel
theorem dX8_thingsBefore_15 : decode cX8_thingsBefore 15 = .ok (.ifCond .eq 18, 3) := by decide +kernel
theorem dX8_thingsBefore_18 : decode cX8_thingsBefore 18 = .ok (.aload_n 0, 1) := by decide +kernel
theorem dX8_thingsBefore_19 : decode cX8_thingsBefore 19 = .ok (.iload_n 1, 1) := by decide +kernel
theorem dX8_thingsBefore_20 : decode cX8_thingsBefore 20 = .ok (.iload_n 3, 1) := by decide +kernel
theorem dX8_thingsBefore_21 : decode cX8_thingsBefore 21 = .ok (.invokevirtual 54, 3) := by decide +kernel
theorem dX8_thingsBefore_24 : decode cX8_thingsBefore 24 = .ok (.ifCond .eq 9, 3) := by decide +kernel
theorem dX8_thingsBefore_27 : decode cX8_thingsBefore 27 = .ok (.iload_n 2, 1) := by decide +kernel
theorem dX8_thingsBefore_28 : decode cX8_thingsBefore 28 = .ok (.iconst 1, 1) := by decide +kernel
theorem dX8_thingsBefore_29 : decode cX8_thingsBefore 29 = .ok (.iload_n 3, 1) := by decide +kernel
theorem dX8_thingsBefore_30 : decode cX8_thingsBefore 30 = .ok (.ishl, 1) := by decide +kernel
theorem dX8_thingsBefore_31 : decode cX8_thingsBefore 31 = .ok (.ior, 1) := by decide +kernel
theorem dX8_thingsBefore_32 : decode cX8_thingsBefore 32 = .ok (.istore_n 2, 1) := by decide +kernel
theorem dX8_thingsBefore_33 : decode cX8_thingsBefore 33 = .ok (.iinc 3 1, 3) := by decide +kernel
theorem dX8_thingsBefore_36 : decode cX8_thingsBefore 36 = .ok (.goto (-32), 3) := by decide +kernel
theorem dX8_thingsBefore_39 : decode cX8_thingsBefore 39 = .ok (.iload_n 2, 1) := by decide +kernel
theorem dX8_thingsBefore_40 : decode cX8_thingsBefore 40 = .ok (.ireturn, 1) := by decide +kernel
theorem dX8_thingsThere_0 : decode cX8_thingsThere 0 = .ok (.iconst 0, 1) := by decide +kernel
theorem dX8_thingsThere_1 : decode cX8_thingsThere 1 = .ok (.istore_n 2, 1) := by decide +kernel
theorem dX8_thingsThere_2 : decode cX8_thingsThere 2 = .ok (.iconst 0, 1) := by decide +kernel
theorem dX8_thingsThere_3 : decode cX8_thingsThere 3 = .ok (.istore_n 3, 1) := by decide +kernel
theorem dX8_thingsThere_4 : decode cX8_thingsThere 4 = .ok (.iload_n 3, 1) := by decide +kernel
theorem dX8_thingsThere_5 : decode cX8_thingsThere 5 = .ok (.bipush 16, 2) := by decide +kernel
theorem dX8_thingsThere_7 : decode cX8_thingsThere 7 = .ok (.if_icmp .ge 32, 3) := by decide +kernel
theorem dX8_thingsThere_10 : decode cX8_thingsThere 10 = .ok (.aload_n 0, 1) := by decide +kernel
theorem dX8_thingsThere_11 : decode cX8_thingsThere 11 = .ok (.iload_n 3, 1) := by decide +kernel
theorem dX8_thingsThere_12 : decode cX8_thingsThere 12 = .ok (.invokevirtual 51, 3) := by decide +kernel
theorem dX8_thingsThere_15 : decode cX8_thingsThere 15 = .ok (.ifCond .eq 18, 3) := by decide +kernel
theorem dX8_thingsThere_18 : decode cX8_thingsThere 18 = .ok (.aload_n 0, 1) := by decide +kernel
theorem dX8_thingsThere_19 : decode cX8_thingsThere 19 = .ok (.iload_n 3, 1) := by decide +kernel
theorem dX8_thingsThere_20 : decode cX8_thingsThere 20 = .ok (.iload_n 1, 1) := by decide +kernel
theorem dX8_thingsThere_21 : decode cX8_thingsThere 21 = .ok (.invokevirtual 58, 3) := by decide +kernel
theorem dX8_thingsThere_24 : decode cX8_thingsThere 24 = .ok (.ifCond .eq 9, 3) := by decide +kernel
theorem dX8_thingsThere_27 : decode cX8_thingsThere 27 = .ok (.iload_n 2, 1) := by decide +kernel
theorem dX8_thingsThere_28 : decode cX8_thingsThere 28 = .ok (.iconst 1, 1) := by decide +kernel
theorem dX8_thingsThere_29 : decode cX8_thingsThere 29 = .ok (.iload_n 3, 1) := by decide +kernel
theorem dX8_thingsThere_30 : decode cX8_thingsThere 30 = .ok (.ishl, 1) := by decide +kernel
theorem dX8_thingsThere_31 : decode cX8_thingsThere 31 = .ok (.ior, 1) := by decide +kernel
theorem dX8_thingsThere_32 : decode cX8_thingsThere 32 = .ok (.istore_n 2, 1) := by decide +kernel
theorem dX8_thingsThere_33 : decode cX8_thingsThere 33 = .ok (.iinc 3 1, 3) := by decide +kernel
theorem dX8_thingsThere_36 : decode cX8_thingsThere 36 = .ok (.goto (-32), 3) := by decide +kernel
theorem dX8_thingsThere_39 : decode cX8_thingsThere 39 = .ok (.iload_n 2, 1) := by decide +kernel
theorem dX8_thingsThere_40 : decode cX8_thingsThere 40 = .ok (.ireturn, 1) := by decide +kernel
theorem dX8_isBefore_0 : decode cX8_isBefore 0 = .ok (.aload_n 0, 1) := by decide +kernel
theorem dX8_isBefore_1 : decode cX8_isBefore 1 = .ok (.getfield 9, 3) := by decide +kernel
theorem dX8_isBefore_4 : decode cX8_isBefore 4 = .ok (.iload_n 1, 1) := by decide +kernel
theorem dX8_isBefore_5 : decode cX8_isBefore 5 = .ok (.iaload, 1) := by decide +kernel
theorem dX8_isBefore_6 : decode cX8_isBefore 6 = .ok (.aload_n 0, 1) := by decide +kernel
theorem dX8_isBefore_7 : decode cX8_isBefore 7 = .ok (.getfield 15, 3) := by decide +kernel
theorem dX8_isBefore_10 : decode cX8_isBefore 10 = .ok (.iload_n 2, 1) := by decide +kernel
theorem dX8_isBefore_11 : decode cX8_isBefore 11 = .ok (.iaload, 1) := by decide +kernel
theorem dX8_isBefore_12 : decode cX8_isBefore 12 = .ok (.isub, 1) := by decide +kernel
theorem dX8_isBefore_13 : decode cX8_isBefore 13 = .ok (.invokestatic 61, 3) := by decide +kernel
theorem dX8_isBefore_16 : decode cX8_isBefore 16 = .ok (.istore_n 3, 1) := by decide +kernel
theorem dX8_isBefore_17 : decode cX8_isBefore 17 = .ok (.iload_n 3, 1) := by decide +kernel
theorem dX8_isBefore_18 : decode cX8_isBefore 18 = .ok (.iconst 1, 1) := by decide +kernel
theorem dX8_isBefore_19 : decode cX8_isBefore 19 = .ok (.if_icmp .le 9, 3) := by decide +kernel
theorem dX8_isBefore_22 : decode cX8_isBefore 22 = .ok (.iload_n 3, 1) := by decide +kernel
theorem dX8_isBefore_23 : decode cX8_isBefore 23 = .ok (.bipush 11, 2) := by decide +kernel
theorem dX8_isBefore_25 : decode cX8_isBefore 25 = .ok (.if_icmp .ne 7, 3) := by decide +kernel
theorem dX8_isBefore_28 : decode cX8_isBefore 28 = .ok (.iconst 1, 1) := by decide +kernel
theorem dX8_isBefore_29 : decode cX8_isBefore 29 = .ok (.goto 4, 3) := by decide +kernel
theorem dX8_isBefore_32 : decode cX8_isBefore 32 = .ok (.iconst 0, 1) := by decide +kernel
theorem dX8_isBefore_33 : decode cX8_isBefore 33 = .ok (.ireturn, 1) := by decide +kernel
theorem dX8_isThere_0 : decode cX8_isThere 0 = .ok (.aload_n 0, 1) := by decide +kernel
theorem dX8_isThere_1 : decode cX8_isThere 1 = .ok (.getfield 18, 3) := by decide +kernel
theorem dX8_isThere_4 : decode cX8_isThere 4 = .ok (.iload_n 1, 1) := by decide +kernel
theorem dX8_isThere_5 : decode cX8_isThere 5 = .ok (.iaload, 1) := by decide +kernel
theorem dX8_isThere_6 : decode cX8_isThere 6 = .ok (.iload_n 2, 1) := by decide +kernel
theorem dX8_isThere_7 : decode cX8_isThere 7 = .ok (.if_icmp .gt 7, 3) := by decide +kernel
theorem dX8_isThere_10 : decode cX8_isThere 10 = .ok (.iconst 1, 1) := by decide +kernel
theorem dX8_isThere_11 : decode cX8_isThere 11 = .ok (.goto 4, 3) := by decide +kernel
theorem dX8_isThere_14 : decode cX8_isThere 14 = .ok (.iconst 0, 1) := by decide +kernel
theorem dX8_isThere_15 : decode cX8_isThere 15 = .ok (.istore_n 3, 1) := by decide +kernel
theorem dX8_isThere_16 : decode cX8_isThere 16 = .ok (.iload_n 2, 1) := by decide +kernel
theorem dX8_isThere_17 : decode cX8_isThere 17 = .ok (.aload_n 0, 1) := by decide +kernel
theorem dX8_isThere_18 : decode cX8_isThere 18 = .ok (.getfield 21, 3) := by decide +kernel
theorem dX8_isThere_21 : decode cX8_isThere 21 = .ok (.iload_n 1, 1) := by decide +kernel
theorem dX8_isThere_22 : decode cX8_isThere 22 = .ok (.iaload, 1) := by decide +kernel
theorem dX8_isThere_23 : decode cX8_isThere 23 = .ok (.if_icmp .gt 7, 3) := by decide +kernel
theorem dX8_isThere_26 : decode cX8_isThere 26 = .ok (.iconst 1, 1) := by decide +kernel
theorem dX8_isThere_27 : decode cX8_isThere 27 = .ok (.goto 4, 3) := by decide +kernel
theorem dX8_isThere_30 : decode cX8_isThere 30 = .ok (.iconst 0, 1) := by decide +kernel
theorem dX8_isThere_31 : decode cX8_isThere 31 = .ok (.istore 4, 2) := by decide +kernel
theorem dX8_isThere_33 : decode cX8_isThere 33 = .ok (.aload_n 0, 1) := by decide +kernel
theorem dX8_isThere_34 : decode cX8_isThere 34 = .ok (.getfield 18, 3) := by decide +kernel
theorem dX8_isThere_37 : decode cX8_isThere 37 = .ok (.iload_n 1, 1) := by decide +kernel
theorem dX8_isThere_38 : decode cX8_isThere 38 = .ok (.iaload, 1) := by decide +kernel
theorem dX8_isThere_39 : decode cX8_isThere 39 = .ok (.aload_n 0, 1) := by decide +kernel
theorem dX8_isThere_40 : decode cX8_isThere 40 = .ok (.getfield 21, 3) := by decide +kernel
theorem dX8_isThere_43 : decode cX8_isThere 43 = .ok (.iload_n 1, 1) := by decide +kernel
theorem dX8_isThere_44 : decode cX8_isThere 44 = .ok (.iaload, 1) := by decide +kernel
theorem dX8_isThere_45 : decode cX8_isThere 45 = .ok (.if_icmp .gt 20, 3) := by decide +kernel
theorem dX8_isThere_48 : decode cX8_isThere 48 = .ok (.iload_n 3, 1) := by decide +kernel
theorem dX8_isThere_49 : decode cX8_isThere 49 = .ok (.ifCond .eq 12, 3) := by decide +kernel
theorem dX8_isThere_52 : decode cX8_isThere 52 = .ok (.iload 4, 2) := by decide +kernel
theorem dX8_isThere_54 : decode cX8_isThere 54 = .ok (.ifCond .eq 7, 3) := by decide +kernel
theorem dX8_isThere_57 : decode cX8_isThere 57 = .ok (.iconst 1, 1) := by decide +kernel
theorem dX8_isThere_58 : decode cX8_isThere 58 = .ok (.goto 21, 3) := by decide +kernel
theorem dX8_isThere_61 : decode cX8_isThere 61 = .ok (.iconst 0, 1) := by decide +kernel
theorem dX8_isThere_62 : decode cX8_isThere 62 = .ok (.goto 17, 3) := by decide +kernel
theorem dX8_isThere_65 : decode cX8_isThere 65 = .ok (.iload_n 3, 1) := by decide +kernel
theorem dX8_isThere_66 : decode cX8_isThere 66 = .ok (.ifCond .ne 8, 3) := by decide +kernel
theorem dX8_isThere_69 : decode cX8_isThere 69 = .ok (.iload 4, 2) := by decide +kernel
theorem dX8_isThere_71 : decode cX8_isThere 71 = .ok (.ifCond .eq 7, 3) := by decide +kernel
theorem dX8_isThere_74 : decode cX8_isThere 74 = .ok (.iconst 1, 1) := by decide +kernel
theorem dX8_isThere_75 : decode cX8_isThere 75 = .ok (.goto 4, 3) := by decide +kernel
theorem dX8_isThere_78 : decode cX8_isThere 78 = .ok (.iconst 0, 1) := by decide +kernel
theorem dX8_isThere_79 : decode cX8_isThere 79 = .ok (.ireturn, 1) := by decide +kernel
theorem dX8_view_0 : decode cX8_view 0 = .ok (.aload_n 0, 1) := by decide +kernel
theorem dX8_view_1 : decode cX8_view 1 = .ok (.iload_n 1, 1) := by decide +kernel
theorem dX8_view_2 : decode cX8_view 2 = .ok (.invokevirtual 40, 3) := by decide +kernel
theorem dX8_view_5 : decode cX8_view 5 = .ok (.ifCond .eq 24, 3) := by decide +kernel
theorem dX8_view_8 : decode cX8_view 8 = .ok (.iload_n 2, 1) := by decide +kernel
theorem dX8_view_9 : decode cX8_view 9 = .ok (.invokestatic 66, 3) := by decide +kernel
theorem dX8_view_12 : decode cX8_view 12 = .ok (.ifCond .eq 17, 3) := by decide +kernel
theorem dX8_view_15 : decode cX8_view 15 = .ok (.aload_n 0, 1) := by decide +kernel
theorem dX8_view_16 : decode cX8_view 16 = .ok (.getfield 24, 3) := by decide +kernel
theorem dX8_view_19 : decode cX8_view 19 = .ok (.iload_n 1, 1) := by decide +kernel
theorem dX8_view_20 : decode cX8_view 20 = .ok (.bipush 12, 2) := by decide +kernel
theorem dX8_view_22 : decode cX8_view 22 = .ok (.imul, 1) := by decide +kernel
theorem dX8_view_23 : decode cX8_view 23 = .ok (.iload_n 2, 1) := by decide +kernel
theorem dX8_view_24 : decode cX8_view 24 = .ok (.iadd, 1) := by decide +kernel
theorem dX8_view_25 : decode cX8_view 25 = .ok (.iaload, 1) := by decide +kernel
theorem dX8_view_26 : decode cX8_view 26 = .ok (.goto 4, 3) := by decide +kernel
theorem dX8_view_29 : decode cX8_view 29 = .ok (.iconst 0, 1) := by decide +kernel
theorem dX8_view_30 : decode cX8_view 30 = .ok (.ireturn, 1) := by decide +kernel
theorem dX8_wholeView_0 : decode cX8_wholeView 0 = .ok (.aload_n 0, 1) := by decide +kernel
theorem dX8_wholeView_1 : decode cX8_wholeView 1 = .ok (.iload_n 1, 1) := by decide +kernel
theorem dX8_wholeView_2 : decode cX8_wholeView 2 = .ok (.invokevirtual 40, 3) := by decide +kernel
theorem dX8_wholeView_5 : decode cX8_wholeView 5 = .ok (.ifCond .eq 12, 3) := by decide +kernel
theorem dX8_wholeView_8 : decode cX8_wholeView 8 = .ok (.aload_n 0, 1) := by decide +kernel
theorem dX8_wholeView_9 : decode cX8_wholeView 9 = .ok (.getfield 27, 3) := by decide +kernel
theorem dX8_wholeView_12 : decode cX8_wholeView 12 = .ok (.iload_n 1, 1) := by decide +kernel
theorem dX8_wholeView_13 : decode cX8_wholeView 13 = .ok (.iaload, 1) := by decide +kernel
theorem dX8_wholeView_14 : decode cX8_wholeView 14 = .ok (.goto 4, 3) := by decide +kernel
theorem dX8_wholeView_17 : decode cX8_wholeView 17 = .ok (.iconst 0, 1) := by decide +kernel
theorem dX8_wholeView_18 : decode cX8_wholeView 18 = .ok (.ireturn, 1) := by decide +kernel
theorem dX8_litTurns_0 : decode cX8_litTurns 0 = .ok (.iconst 0, 1) := by decide +kernel
theorem dX8_litTurns_1 : decode cX8_litTurns 1 = .ok (.istore_n 2, 1) := by decide +kernel
theorem dX8_litTurns_2 : decode cX8_litTurns 2 = .ok (.iconst 0, 1) := by decide +kernel
theorem dX8_litTurns_3 : decode cX8_litTurns 3 = .ok (.istore_n 3, 1) := by decide +kernel
theorem dX8_litTurns_4 : decode cX8_litTurns 4 = .ok (.iload_n 3, 1) := by decide +kernel
theorem dX8_litTurns_5 : decode cX8_litTurns 5 = .ok (.bipush 12, 2) := by decide +kernel
theorem dX8_litTurns_7 : decode cX8_litTurns 7 = .ok (.if_icmp .ge 24, 3) := by decide +kernel
theorem dX8_litTurns_10 : decode cX8_litTurns 10 = .ok (.aload_n 0, 1) := by decide +kernel
theorem dX8_litTurns_11 : decode cX8_litTurns 11 = .ok (.iload_n 1, 1) := by decide +kernel
theorem dX8_litTurns_12 : decode cX8_litTurns 12 = .ok (.iload_n 3, 1) := by decide +kernel
theorem dX8_litTurns_13 : decode cX8_litTurns 13 = .ok (.invokevirtual 69, 3) := by decide +kernel
theorem dX8_litTurns_16 : decode cX8_litTurns 16 = .ok (.ifCond .eq 9, 3) := by decide +kernel
theorem dX8_litTurns_19 : decode cX8_litTurns 19 = .ok (.iload_n 2, 1) := by decide +kernel
theorem dX8_litTurns_20 : decode cX8_litTurns 20 = .ok (.iconst 1, 1) := by decide +kernel
theorem dX8_litTurns_21 : decode cX8_litTurns 21 = .ok (.iload_n 3, 1) := by decide +kernel
theorem dX8_litTurns_22 : decode cX8_litTurns 22 = .ok (.ishl, 1) := by decide +kernel
theorem dX8_litTurns_23 : decode cX8_litTurns 23 = .ok (.ior, 1) := by decide +kernel
theorem dX8_litTurns_24 : decode cX8_litTurns 24 = .ok (.istore_n 2, 1) := by decide +kernel
theorem dX8_litTurns_25 : decode cX8_litTurns 25 = .ok (.iinc 3 1, 3) := by decide +kernel
theorem dX8_litTurns_28 : decode cX8_litTurns 28 = .ok (.goto (-24), 3) := by decide +kernel
theorem dX8_litTurns_31 : decode cX8_litTurns 31 = .ok (.iload_n 2, 1) := by decide +kernel
theorem dX8_litTurns_32 : decode cX8_litTurns 32 = .ok (.ireturn, 1) := by decide +kernel
theorem dX8_watchers_0 : decode cX8_watchers 0 = .ok (.iconst 0, 1) := by decide +kernel
theorem dX8_watchers_1 : decode cX8_watchers 1 = .ok (.istore_n 2, 1) := by decide +kernel
theorem dX8_watchers_2 : decode cX8_watchers 2 = .ok (.iconst 0, 1) := by decide +kernel
theorem dX8_watchers_3 : decode cX8_watchers 3 = .ok (.istore_n 3, 1) := by decide +kernel
theorem dX8_watchers_4 : decode cX8_watchers 4 = .ok (.iload_n 3, 1) := by decide +kernel
theorem dX8_watchers_5 : decode cX8_watchers 5 = .ok (.bipush 16, 2) := by decide +kernel
theorem dX8_watchers_7 : decode cX8_watchers 7 = .ok (.if_icmp .ge 28, 3) := by decide +kernel
theorem dX8_watchers_10 : decode cX8_watchers 10 = .ok (.aload_n 0, 1) := by decide +kernel
theorem dX8_watchers_11 : decode cX8_watchers 11 = .ok (.iload_n 3, 1) := by decide +kernel
theorem dX8_watchers_12 : decode cX8_watchers 12 = .ok (.invokevirtual 73, 3) := by decide +kernel
theorem dX8_watchers_15 : decode cX8_watchers 15 = .ok (.iload_n 1, 1) := by decide +kernel
theorem dX8_watchers_16 : decode cX8_watchers 16 = .ok (.ishr, 1) := by decide +kernel
theorem dX8_watchers_17 : decode cX8_watchers 17 = .ok (.iconst 1, 1) := by decide +kernel
theorem dX8_watchers_18 : decode cX8_watchers 18 = .ok (.iand, 1) := by decide +kernel
theorem dX8_watchers_19 : decode cX8_watchers 19 = .ok (.iconst 1, 1) := by decide +kernel
theorem dX8_watchers_20 : decode cX8_watchers 20 = .ok (.if_icmp .ne 9, 3) := by decide +kernel
theorem dX8_watchers_23 : decode cX8_watchers 23 = .ok (.iload_n 2, 1) := by decide +kernel
theorem dX8_watchers_24 : decode cX8_watchers 24 = .ok (.iconst 1, 1) := by decide +kernel
theorem dX8_watchers_25 : decode cX8_watchers 25 = .ok (.iload_n 3, 1) := by decide +kernel
theorem dX8_watchers_26 : decode cX8_watchers 26 = .ok (.ishl, 1) := by decide +kernel
theorem dX8_watchers_27 : decode cX8_watchers 27 = .ok (.ior, 1) := by decide +kernel
theorem dX8_watchers_28 : decode cX8_watchers 28 = .ok (.istore_n 2, 1) := by decide +kernel
theorem dX8_watchers_29 : decode cX8_watchers 29 = .ok (.iinc 3 1, 3) := by decide +kernel
theorem dX8_watchers_32 : decode cX8_watchers 32 = .ok (.goto (-28), 3) := by decide +kernel
theorem dX8_watchers_35 : decode cX8_watchers 35 = .ok (.iload_n 2, 1) := by decide +kernel
theorem dX8_watchers_36 : decode cX8_watchers 36 = .ok (.ireturn, 1) := by decide +kernel
theorem dX8_twosIn_0 : decode cX8_twosIn 0 = .ok (.iconst 0, 1) := by decide +kernel
theorem dX8_twosIn_1 : decode cX8_twosIn 1 = .ok (.istore_n 2, 1) := by decide +kernel
theorem dX8_twosIn_2 : decode cX8_twosIn 2 = .ok (.iconst 0, 1) := by decide +kernel
theorem dX8_twosIn_3 : decode cX8_twosIn 3 = .ok (.istore_n 3, 1) := by decide +kernel
theorem dX8_twosIn_4 : decode cX8_twosIn 4 = .ok (.iload_n 3, 1) := by decide +kernel
theorem dX8_twosIn_5 : decode cX8_twosIn 5 = .ok (.bipush 16, 2) := by decide +kernel
theorem dX8_twosIn_7 : decode cX8_twosIn 7 = .ok (.if_icmp .ge 21, 3) := by decide +kernel
theorem dX8_twosIn_10 : decode cX8_twosIn 10 = .ok (.iload_n 2, 1) := by decide +kernel
theorem dX8_twosIn_11 : decode cX8_twosIn 11 = .ok (.aload_n 0, 1) := by decide +kernel
theorem dX8_twosIn_12 : decode cX8_twosIn 12 = .ok (.iload_n 3, 1) := by decide +kernel
theorem dX8_twosIn_13 : decode cX8_twosIn 13 = .ok (.iload_n 1, 1) := by decide +kernel
theorem dX8_twosIn_14 : decode cX8_twosIn 14 = .ok (.invokevirtual 69, 3) := by decide +kernel
theorem dX8_twosIn_17 : decode cX8_twosIn 17 = .ok (.invokestatic 76, 3) := by decide +kernel
theorem dX8_twosIn_20 : decode cX8_twosIn 20 = .ok (.iadd, 1) := by decide +kernel
theorem dX8_twosIn_21 : decode cX8_twosIn 21 = .ok (.istore_n 2, 1) := by decide +kernel
theorem dX8_twosIn_22 : decode cX8_twosIn 22 = .ok (.iinc 3 1, 3) := by decide +kernel
theorem dX8_twosIn_25 : decode cX8_twosIn 25 = .ok (.goto (-21), 3) := by decide +kernel
theorem dX8_twosIn_28 : decode cX8_twosIn 28 = .ok (.iload_n 2, 1) := by decide +kernel
theorem dX8_twosIn_29 : decode cX8_twosIn 29 = .ok (.ireturn, 1) := by decide +kernel
theorem dX8_clearestTurn_0 : decode cX8_clearestTurn 0 = .ok (.iconst 0, 1) := by decide +kernel
theorem dX8_clearestTurn_1 : decode cX8_clearestTurn 1 = .ok (.istore_n 1, 1) := by decide +kernel
theorem dX8_clearestTurn_2 : decode cX8_clearestTurn 2 = .ok (.iconst 0, 1) := by decide +kernel
theorem dX8_clearestTurn_3 : decode cX8_clearestTurn 3 = .ok (.istore_n 2, 1) := by decide +kernel
theorem dX8_clearestTurn_4 : decode cX8_clearestTurn 4 = .ok (.iconst 0, 1) := by decide +kernel
theorem dX8_clearestTurn_5 : decode cX8_clearestTurn 5 = .ok (.istore_n 3, 1) := by decide +kernel
theorem dX8_clearestTurn_6 : decode cX8_clearestTurn 6 = .ok (.iload_n 3, 1) := by decide +kernel
theorem dX8_clearestTurn_7 : decode cX8_clearestTurn 7 = .ok (.bipush 12, 2) := by decide +kernel
theorem dX8_clearestTurn_9 : decode cX8_clearestTurn 9 = .ok (.if_icmp .ge 27, 3) := by decide +kernel
theorem dX8_clearestTurn_12 : decode cX8_clearestTurn 12 = .ok (.aload_n 0, 1) := by decide +kernel
theorem dX8_clearestTurn_13 : decode cX8_clearestTurn 13 = .ok (.iload_n 3, 1) := by decide +kernel
theorem dX8_clearestTurn_14 : decode cX8_clearestTurn 14 = .ok (.invokevirtual 81, 3) := by decide +kernel
theorem dX8_clearestTurn_17 : decode cX8_clearestTurn 17 = .ok (.istore 4, 2) := by decide +kernel
theorem dX8_clearestTurn_19 : decode cX8_clearestTurn 19 = .ok (.iload 4, 2) := by decide +kernel
theorem dX8_clearestTurn_21 : decode cX8_clearestTurn 21 = .ok (.iload_n 2, 1) := by decide +kernel
theorem dX8_clearestTurn_22 : decode cX8_clearestTurn 22 = .ok (.if_icmp .le 8, 3) := by decide +kernel
theorem dX8_clearestTurn_25 : decode cX8_clearestTurn 25 = .ok (.iload 4, 2) := by decide +kernel
theorem dX8_clearestTurn_27 : decode cX8_clearestTurn 27 = .ok (.istore_n 2, 1) := by decide +kernel
theorem dX8_clearestTurn_28 : decode cX8_clearestTurn 28 = .ok (.iload_n 3, 1) := by decide +kernel
theorem dX8_clearestTurn_29 : decode cX8_clearestTurn 29 = .ok (.istore_n 1, 1) := by decide +kernel
theorem dX8_clearestTurn_30 : decode cX8_clearestTurn 30 = .ok (.iinc 3 1, 3) := by decide +kernel
theorem dX8_clearestTurn_33 : decode cX8_clearestTurn 33 = .ok (.goto (-27), 3) := by decide +kernel
theorem dX8_clearestTurn_36 : decode cX8_clearestTurn 36 = .ok (.iload_n 1, 1) := by decide +kernel
theorem dX8_clearestTurn_37 : decode cX8_clearestTurn 37 = .ok (.ireturn, 1) := by decide +kernel
theorem dX8_housesThatSeeJust_0 : decode cX8_housesThatSeeJust 0 = .ok (.iconst 0, 1) := by decide +kernel
theorem dX8_housesThatSeeJust_1 : decode cX8_housesThatSeeJust 1 = .ok (.istore_n 3, 1) := by decide +kernel
theorem dX8_housesThatSeeJust_2 : decode cX8_housesThatSeeJust 2 = .ok (.iconst 0, 1) := by decide +kernel
theorem dX8_housesThatSeeJust_3 : decode cX8_housesThatSeeJust 3 = .ok (.istore 4, 2) := by decide +kernel
theorem dX8_housesThatSeeJust_5 : decode cX8_housesThatSeeJust 5 = .ok (.iload 4, 2) := by decide +kernel
theorem dX8_housesThatSeeJust_7 : decode cX8_housesThatSeeJust 7 = .ok (.bipush 16, 2) := by decide +kernel
theorem dX8_housesThatSeeJust_9 : decode cX8_housesThatSeeJust 9 = .ok (.if_icmp .ge 36, 3) := by decide +kernel
theorem dX8_housesThatSeeJust_12 : decode cX8_housesThatSeeJust 12 = .ok (.aload_n 0, 1) := by decide +kernel
theorem dX8_housesThatSeeJust_13 : decode cX8_housesThatSeeJust 13 = .ok (.iload 4, 2) := by decide +kernel
theorem dX8_housesThatSeeJust_15 : decode cX8_housesThatSeeJust 15 = .ok (.invokevirtual 40, 3) := by decide +kernel
theorem dX8_housesThatSeeJust_18 : decode cX8_housesThatSeeJust 18 = .ok (.ifCond .eq 21, 3) := by decide +kernel
theorem dX8_housesThatSeeJust_21 : decode cX8_housesThatSeeJust 21 = .ok (.aload_n 0, 1) := by decide +kernel
theorem dX8_housesThatSeeJust_22 : decode cX8_housesThatSeeJust 22 = .ok (.iload 4, 2) := by decide +kernel
theorem dX8_housesThatSeeJust_24 : decode cX8_housesThatSeeJust 24 = .ok (.iload_n 2, 1) := by decide +kernel
theorem dX8_housesThatSeeJust_25 : decode cX8_housesThatSeeJust 25 = .ok (.invokevirtual 69, 3) := by decide +kernel
theorem dX8_housesThatSeeJust_28 : decode cX8_housesThatSeeJust 28 = .ok (.iload_n 1, 1) := by decide +kernel
theorem dX8_housesThatSeeJust_29 : decode cX8_housesThatSeeJust 29 = .ok (.if_icmp .ne 10, 3) := by decide +kernel
theorem dX8_housesThatSeeJust_32 : decode cX8_housesThatSeeJust 32 = .ok (.iload_n 3, 1) := by decide +kernel
theorem dX8_housesThatSeeJust_33 : decode cX8_housesThatSeeJust 33 = .ok (.iconst 1, 1) := by decide +kernel
theorem dX8_housesThatSeeJust_34 : decode cX8_housesThatSeeJust 34 = .ok (.iload 4, 2) := by decide +kernel
theorem dX8_housesThatSeeJust_36 : decode cX8_housesThatSeeJust 36 = .ok (.ishl, 1) := by decide +kernel
theorem dX8_housesThatSeeJust_37 : decode cX8_housesThatSeeJust 37 = .ok (.ior, 1) := by decide +kernel
theorem dX8_housesThatSeeJust_38 : decode cX8_housesThatSeeJust 38 = .ok (.istore_n 3, 1) := by decide +kernel
theorem dX8_housesThatSeeJust_39 : decode cX8_housesThatSeeJust 39 = .ok (.iinc 4 1, 3) := by decide +kernel
theorem dX8_housesThatSeeJust_42 : decode cX8_housesThatSeeJust 42 = .ok (.goto (-37), 3) := by decide +kernel
theorem dX8_housesThatSeeJust_45 : decode cX8_housesThatSeeJust 45 = .ok (.iload_n 3, 1) := by decide +kernel
theorem dX8_housesThatSeeJust_46 : decode cX8_housesThatSeeJust 46 = .ok (.ireturn, 1) := by decide +kernel
theorem dX8_fewestWatchers_0 : decode cX8_fewestWatchers 0 = .ok (.aload_n 0, 1) := by decide +kernel
theorem dX8_fewestWatchers_1 : decode cX8_fewestWatchers 1 = .ok (.invokevirtual 84, 3) := by decide +kernel
theorem dX8_fewestWatchers_4 : decode cX8_fewestWatchers 4 = .ok (.istore_n 1, 1) := by decide +kernel
theorem dX8_fewestWatchers_5 : decode cX8_fewestWatchers 5 = .ok (.iconst 0, 1) := by decide +kernel
theorem dX8_fewestWatchers_6 : decode cX8_fewestWatchers 6 = .ok (.istore_n 2, 1) := by decide +kernel
theorem dX8_fewestWatchers_7 : decode cX8_fewestWatchers 7 = .ok (.iconst 0, 1) := by decide +kernel
theorem dX8_fewestWatchers_8 : decode cX8_fewestWatchers 8 = .ok (.istore_n 3, 1) := by decide +kernel
theorem dX8_fewestWatchers_9 : decode cX8_fewestWatchers 9 = .ok (.iload_n 3, 1) := by decide +kernel
theorem dX8_fewestWatchers_10 : decode cX8_fewestWatchers 10 = .ok (.iload_n 1, 1) := by decide +kernel
theorem dX8_fewestWatchers_11 : decode cX8_fewestWatchers 11 = .ok (.if_icmp .ge 22, 3) := by decide +kernel
theorem dX8_fewestWatchers_14 : decode cX8_fewestWatchers 14 = .ok (.iload_n 2, 1) := by decide +kernel
theorem dX8_fewestWatchers_15 : decode cX8_fewestWatchers 15 = .ok (.aload_n 0, 1) := by decide +kernel
theorem dX8_fewestWatchers_16 : decode cX8_fewestWatchers 16 = .ok (.aload_n 0, 1) := by decide +kernel
theorem dX8_fewestWatchers_17 : decode cX8_fewestWatchers 17 = .ok (.getfield 30, 3) := by decide +kernel
theorem dX8_fewestWatchers_20 : decode cX8_fewestWatchers 20 = .ok (.iload_n 3, 1) := by decide +kernel
theorem dX8_fewestWatchers_21 : decode cX8_fewestWatchers 21 = .ok (.iaload, 1) := by decide +kernel
theorem dX8_fewestWatchers_22 : decode cX8_fewestWatchers 22 = .ok (.invokevirtual 73, 3) := by decide +kernel
theorem dX8_fewestWatchers_25 : decode cX8_fewestWatchers 25 = .ok (.ior, 1) := by decide +kernel
theorem dX8_fewestWatchers_26 : decode cX8_fewestWatchers 26 = .ok (.istore_n 2, 1) := by decide +kernel
theorem dX8_fewestWatchers_27 : decode cX8_fewestWatchers 27 = .ok (.iinc 3 1, 3) := by decide +kernel
theorem dX8_fewestWatchers_30 : decode cX8_fewestWatchers 30 = .ok (.goto (-21), 3) := by decide +kernel
theorem dX8_fewestWatchers_33 : decode cX8_fewestWatchers 33 = .ok (.iconst (-1), 1) := by decide +kernel
theorem dX8_fewestWatchers_34 : decode cX8_fewestWatchers 34 = .ok (.istore_n 3, 1) := by decide +kernel
theorem dX8_fewestWatchers_35 : decode cX8_fewestWatchers 35 = .ok (.iconst 0, 1) := by decide +kernel
theorem dX8_fewestWatchers_36 : decode cX8_fewestWatchers 36 = .ok (.istore 4, 2) := by decide +kernel
theorem dX8_fewestWatchers_38 : decode cX8_fewestWatchers 38 = .ok (.iload 4, 2) := by decide +kernel
theorem dX8_fewestWatchers_40 : decode cX8_fewestWatchers 40 = .ok (.iload_n 1, 1) := by decide +kernel
theorem dX8_fewestWatchers_41 : decode cX8_fewestWatchers 41 = .ok (.if_icmp .gt 23, 3) := by decide +kernel
theorem dX8_fewestWatchers_44 : decode cX8_fewestWatchers 44 = .ok (.iload_n 3, 1) := by decide +kernel
theorem dX8_fewestWatchers_45 : decode cX8_fewestWatchers 45 = .ok (.iconst (-1), 1) := by decide +kernel
theorem dX8_fewestWatchers_46 : decode cX8_fewestWatchers 46 = .ok (.if_icmp .ne 18, 3) := by decide +kernel
theorem dX8_fewestWatchers_49 : decode cX8_fewestWatchers 49 = .ok (.aload_n 0, 1) := by decide +kernel
theorem dX8_fewestWatchers_50 : decode cX8_fewestWatchers 50 = .ok (.iload_n 1, 1) := by decide +kernel
theorem dX8_fewestWatchers_51 : decode cX8_fewestWatchers 51 = .ok (.iload 4, 2) := by decide +kernel
theorem dX8_fewestWatchers_53 : decode cX8_fewestWatchers 53 = .ok (.iload_n 2, 1) := by decide +kernel
theorem dX8_fewestWatchers_54 : decode cX8_fewestWatchers 54 = .ok (.invokevirtual 88, 3) := by decide +kernel
theorem dX8_fewestWatchers_57 : decode cX8_fewestWatchers 57 = .ok (.istore_n 3, 1) := by decide +kernel
theorem dX8_fewestWatchers_58 : decode cX8_fewestWatchers 58 = .ok (.iinc 4 1, 3) := by decide +kernel
theorem dX8_fewestWatchers_61 : decode cX8_fewestWatchers 61 = .ok (.goto (-23), 3) := by decide +kernel
theorem dX8_fewestWatchers_64 : decode cX8_fewestWatchers 64 = .ok (.iload_n 3, 1) := by decide +kernel
theorem dX8_fewestWatchers_65 : decode cX8_fewestWatchers 65 = .ok (.iconst 0, 1) := by decide +kernel
theorem dX8_fewestWatchers_66 : decode cX8_fewestWatchers 66 = .ok (.invokestatic 92, 3) := by decide +kernel
theorem dX8_fewestWatchers_69 : decode cX8_fewestWatchers 69 = .ok (.ireturn, 1) := by decide +kernel
theorem dX8_gatherCandidates_0 : decode cX8_gatherCandidates 0 = .ok (.iconst 0, 1) := by decide +kernel
theorem dX8_gatherCandidates_1 : decode cX8_gatherCandidates 1 = .ok (.istore_n 1, 1) := by decide +kernel
theorem dX8_gatherCandidates_2 : decode cX8_gatherCandidates 2 = .ok (.iconst 0, 1) := by decide +kernel
theorem dX8_gatherCandidates_3 : decode cX8_gatherCandidates 3 = .ok (.istore_n 2, 1) := by decide +kernel
theorem dX8_gatherCandidates_4 : decode cX8_gatherCandidates 4 = .ok (.iload_n 2, 1) := by decide +kernel
theorem dX8_gatherCandidates_5 : decode cX8_gatherCandidates 5 = .ok (.bipush 16, 2) := by decide +kernel
theorem dX8_gatherCandidates_7 : decode cX8_gatherCandidates 7 = .ok (.if_icmp .ge 81, 3) := by decide +kernel
theorem dX8_gatherCandidates_10 : decode cX8_gatherCandidates 10 = .ok (.aload_n 0, 1) := by decide +kernel
theorem dX8_gatherCandidates_11 : decode cX8_gatherCandidates 11 = .ok (.iload_n 2, 1) := by decide +kernel
theorem dX8_gatherCandidates_12 : decode cX8_gatherCandidates 12 = .ok (.invokevirtual 73, 3) := by decide +kernel
theorem dX8_gatherCandidates_15 : decode cX8_gatherCandidates 15 = .ok (.ifCond .eq 7, 3) := by decide +kernel
theorem dX8_gatherCandidates_18 : decode cX8_gatherCandidates 18 = .ok (.iconst 1, 1) := by decide +kernel
theorem dX8_gatherCandidates_19 : decode cX8_gatherCandidates 19 = .ok (.goto 4, 3) := by decide +kernel
theorem dX8_gatherCandidates_22 : decode cX8_gatherCandidates 22 = .ok (.iconst 0, 1) := by decide +kernel
theorem dX8_gatherCandidates_23 : decode cX8_gatherCandidates 23 = .ok (.istore_n 3, 1) := by decide +kernel
theorem dX8_gatherCandidates_24 : decode cX8_gatherCandidates 24 = .ok (.iconst 0, 1) := by decide +kernel
theorem dX8_gatherCandidates_25 : decode cX8_gatherCandidates 25 = .ok (.istore 4, 2) := by decide +kernel
theorem dX8_gatherCandidates_27 : decode cX8_gatherCandidates 27 = .ok (.iload 4, 2) := by decide +kernel
theorem dX8_gatherCandidates_29 : decode cX8_gatherCandidates 29 = .ok (.iload_n 1, 1) := by decide +kernel
theorem dX8_gatherCandidates_30 : decode cX8_gatherCandidates 30 = .ok (.if_icmp .ge 38, 3) := by decide +kernel
theorem dX8_gatherCandidates_33 : decode cX8_gatherCandidates 33 = .ok (.iload_n 3, 1) := by decide +kernel
theorem dX8_gatherCandidates_34 : decode cX8_gatherCandidates 34 = .ok (.ifCond .eq 34, 3) := by decide +kernel
theorem dX8_gatherCandidates_37 : decode cX8_gatherCandidates 37 = .ok (.aload_n 0, 1) := by decide +kernel
theorem dX8_gatherCandidates_38 : decode cX8_gatherCandidates 38 = .ok (.aload_n 0, 1) := by decide +kernel
theorem dX8_gatherCandidates_39 : decode cX8_gatherCandidates 39 = .ok (.getfield 30, 3) := by decide +kernel
theorem dX8_gatherCandidates_42 : decode cX8_gatherCandidates 42 = .ok (.iload 4, 2) := by decide +kernel
theorem dX8_gatherCandidates_44 : decode cX8_gatherCandidates 44 = .ok (.iaload, 1) := by decide +kernel
theorem dX8_gatherCandidates_45 : decode cX8_gatherCandidates 45 = .ok (.invokevirtual 73, 3) := by decide +kernel
theorem dX8_gatherCandidates_48 : decode cX8_gatherCandidates 48 = .ok (.aload_n 0, 1) := by decide +kernel
theorem dX8_gatherCandidates_49 : decode cX8_gatherCandidates 49 = .ok (.iload_n 2, 1) := by decide +kernel
theorem dX8_gatherCandidates_50 : decode cX8_gatherCandidates 50 = .ok (.invokevirtual 73, 3) := by decide +kernel
theorem dX8_gatherCandidates_53 : decode cX8_gatherCandidates 53 = .ok (.if_icmp .eq 7, 3) := by decide +kernel
theorem dX8_gatherCandidates_56 : decode cX8_gatherCandidates 56 = .ok (.iconst 1, 1) := by decide +kernel
theorem dX8_gatherCandidates_57 : decode cX8_gatherCandidates 57 = .ok (.goto 4, 3) := by decide +kernel
theorem dX8_gatherCandidates_60 : decode cX8_gatherCandidates 60 = .ok (.iconst 0, 1) := by decide +kernel
theorem dX8_gatherCandidates_61 : decode cX8_gatherCandidates 61 = .ok (.istore_n 3, 1) := by decide +kernel
theorem dX8_gatherCandidates_62 : decode cX8_gatherCandidates 62 = .ok (.iinc 4 1, 3) := by decide +kernel
theorem dX8_gatherCandidates_65 : decode cX8_gatherCandidates 65 = .ok (.goto (-38), 3) := by decide +kernel
theorem dX8_gatherCandidates_68 : decode cX8_gatherCandidates 68 = .ok (.iload_n 3, 1) := by decide +kernel
theorem dX8_gatherCandidates_69 : decode cX8_gatherCandidates 69 = .ok (.ifCond .eq 13, 3) := by decide +kernel
theorem dX8_gatherCandidates_72 : decode cX8_gatherCandidates 72 = .ok (.aload_n 0, 1) := by decide +kernel
theorem dX8_gatherCandidates_73 : decode cX8_gatherCandidates 73 = .ok (.getfield 30, 3) := by decide +kernel
theorem dX8_gatherCandidates_76 : decode cX8_gatherCandidates 76 = .ok (.iload_n 1, 1) := by decide +kernel
theorem dX8_gatherCandidates_77 : decode cX8_gatherCandidates 77 = .ok (.iload_n 2, 1) := by decide +kernel
theorem dX8_gatherCandidates_78 : decode cX8_gatherCandidates 78 = .ok (.iastore, 1) := by decide +kernel
theorem dX8_gatherCandidates_79 : decode cX8_gatherCandidates 79 = .ok (.iinc 1 1, 3) := by decide +kernel
theorem dX8_gatherCandidates_82 : decode cX8_gatherCandidates 82 = .ok (.iinc 2 1, 3) := by decide +kernel
theorem dX8_gatherCandidates_85 : decode cX8_gatherCandidates 85 = .ok (.goto (-81), 3) := by decide +kernel
theorem dX8_gatherCandidates_88 : decode cX8_gatherCandidates 88 = .ok (.iload_n 1, 1) := by decide +kernel
theorem dX8_gatherCandidates_89 : decode cX8_gatherCandidates 89 = .ok (.ireturn, 1) := by decide +kernel
theorem dX8_leastWatchers_0 : decode cX8_leastWatchers 0 = .ok (.iload_n 3, 1) := by decide +kernel
theorem dX8_leastWatchers_1 : decode cX8_leastWatchers 1 = .ok (.ifCond .ne 5, 3) := by decide +kernel
theorem dX8_leastWatchers_4 : decode cX8_leastWatchers 4 = .ok (.iconst 0, 1) := by decide +kernel
theorem dX8_leastWatchers_5 : decode cX8_leastWatchers 5 = .ok (.ireturn, 1) := by decide +kernel
theorem dX8_leastWatchers_6 : decode cX8_leastWatchers 6 = .ok (.iload_n 1, 1) := by decide +kernel
theorem dX8_leastWatchers_7 : decode cX8_leastWatchers 7 = .ok (.ifCond .le 13, 3) := by decide +kernel
theorem dX8_leastWatchers_10 : decode cX8_leastWatchers 10 = .ok (.iload_n 1, 1) := by decide +kernel
theorem dX8_leastWatchers_11 : decode cX8_leastWatchers 11 = .ok (.bipush 16, 2) := by decide +kernel
theorem dX8_leastWatchers_13 : decode cX8_leastWatchers 13 = .ok (.if_icmp .gt 7, 3) := by decide +kernel
theorem dX8_leastWatchers_16 : decode cX8_leastWatchers 16 = .ok (.iload_n 2, 1) := by decide +kernel
theorem dX8_leastWatchers_17 : decode cX8_leastWatchers 17 = .ok (.ifCond .gt 5, 3) := by decide +kernel
theorem dX8_leastWatchers_20 : decode cX8_leastWatchers 20 = .ok (.iconst (-1), 1) := by decide +kernel
theorem dX8_leastWatchers_21 : decode cX8_leastWatchers 21 = .ok (.ireturn, 1) := by decide +kernel
theorem dX8_leastWatchers_22 : decode cX8_leastWatchers 22 = .ok (.aload_n 0, 1) := by decide +kernel
theorem dX8_leastWatchers_23 : decode cX8_leastWatchers 23 = .ok (.iload_n 1, 1) := by decide +kernel
theorem dX8_leastWatchers_24 : decode cX8_leastWatchers 24 = .ok (.iconst 1, 1) := by decide +kernel
theorem dX8_leastWatchers_25 : decode cX8_leastWatchers 25 = .ok (.isub, 1) := by decide +kernel
theorem dX8_leastWatchers_26 : decode cX8_leastWatchers 26 = .ok (.iload_n 2, 1) := by decide +kernel
theorem dX8_leastWatchers_27 : decode cX8_leastWatchers 27 = .ok (.iload_n 3, 1) := by decide +kernel
theorem dX8_leastWatchers_28 : decode cX8_leastWatchers 28 = .ok (.invokevirtual 88, 3) := by decide +kernel
theorem dX8_leastWatchers_31 : decode cX8_leastWatchers 31 = .ok (.istore 4, 2) := by decide +kernel
theorem dX8_leastWatchers_33 : decode cX8_leastWatchers 33 = .ok (.iload 4, 2) := by decide +kernel
theorem dX8_leastWatchers_35 : decode cX8_leastWatchers 35 = .ok (.iconst (-1), 1) := by decide +kernel
theorem dX8_leastWatchers_36 : decode cX8_leastWatchers 36 = .ok (.if_icmp .eq 6, 3) := by decide +kernel
theorem dX8_leastWatchers_39 : decode cX8_leastWatchers 39 = .ok (.iload 4, 2) := by decide +kernel
theorem dX8_leastWatchers_41 : decode cX8_leastWatchers 41 = .ok (.ireturn, 1) := by decide +kernel
theorem dX8_leastWatchers_42 : decode cX8_leastWatchers 42 = .ok (.aload_n 0, 1) := by decide +kernel
theorem dX8_leastWatchers_43 : decode cX8_leastWatchers 43 = .ok (.getfield 30, 3) := by decide +kernel
theorem dX8_leastWatchers_46 : decode cX8_leastWatchers 46 = .ok (.iload_n 1, 1) := by decide +kernel
theorem dX8_leastWatchers_47 : decode cX8_leastWatchers 47 = .ok (.iconst 1, 1) := by decide +kernel
theorem dX8_leastWatchers_48 : decode cX8_leastWatchers 48 = .ok (.isub, 1) := by decide +kernel
theorem dX8_leastWatchers_49 : decode cX8_leastWatchers 49 = .ok (.iaload, 1) := by decide +kernel
theorem dX8_leastWatchers_50 : decode cX8_leastWatchers 50 = .ok (.istore 5, 2) := by decide +kernel
theorem dX8_leastWatchers_52 : decode cX8_leastWatchers 52 = .ok (.aload_n 0, 1) := by decide +kernel
theorem dX8_leastWatchers_53 : decode cX8_leastWatchers 53 = .ok (.iload_n 1, 1) := by decide +kernel
theorem dX8_leastWatchers_54 : decode cX8_leastWatchers 54 = .ok (.iconst 1, 1) := by decide +kernel
theorem dX8_leastWatchers_55 : decode cX8_leastWatchers 55 = .ok (.isub, 1) := by decide +kernel
theorem dX8_leastWatchers_56 : decode cX8_leastWatchers 56 = .ok (.iload_n 2, 1) := by decide +kernel
theorem dX8_leastWatchers_57 : decode cX8_leastWatchers 57 = .ok (.iconst 1, 1) := by decide +kernel
theorem dX8_leastWatchers_58 : decode cX8_leastWatchers 58 = .ok (.isub, 1) := by decide +kernel
theorem dX8_leastWatchers_59 : decode cX8_leastWatchers 59 = .ok (.iload_n 3, 1) := by decide +kernel
theorem dX8_leastWatchers_60 : decode cX8_leastWatchers 60 = .ok (.aload_n 0, 1) := by decide +kernel
theorem dX8_leastWatchers_61 : decode cX8_leastWatchers 61 = .ok (.iload 5, 2) := by decide +kernel
theorem dX8_leastWatchers_63 : decode cX8_leastWatchers 63 = .ok (.invokevirtual 73, 3) := by decide +kernel
theorem dX8_leastWatchers_66 : decode cX8_leastWatchers 66 = .ok (.iconst (-1), 1) := by decide +kernel
theorem dX8_leastWatchers_67 : decode cX8_leastWatchers 67 = .ok (.ixor, 1) := by decide +kernel
theorem dX8_leastWatchers_68 : decode cX8_leastWatchers 68 = .ok (.iand, 1) := by decide +kernel
theorem dX8_leastWatchers_69 : decode cX8_leastWatchers 69 = .ok (.invokevirtual 88, 3) := by decide +kernel
theorem dX8_leastWatchers_72 : decode cX8_leastWatchers 72 = .ok (.istore 6, 2) := by decide +kernel
theorem dX8_leastWatchers_74 : decode cX8_leastWatchers 74 = .ok (.iload 6, 2) := by decide +kernel
theorem dX8_leastWatchers_76 : decode cX8_leastWatchers 76 = .ok (.iconst (-1), 1) := by decide +kernel
theorem dX8_leastWatchers_77 : decode cX8_leastWatchers 77 = .ok (.if_icmp .ne 7, 3) := by decide +kernel
theorem dX8_leastWatchers_80 : decode cX8_leastWatchers 80 = .ok (.iconst (-1), 1) := by decide +kernel
theorem dX8_leastWatchers_81 : decode cX8_leastWatchers 81 = .ok (.goto 10, 3) := by decide +kernel
theorem dX8_leastWatchers_84 : decode cX8_leastWatchers 84 = .ok (.iload 6, 2) := by decide +kernel
theorem dX8_leastWatchers_86 : decode cX8_leastWatchers 86 = .ok (.iconst 1, 1) := by decide +kernel
theorem dX8_leastWatchers_87 : decode cX8_leastWatchers 87 = .ok (.iload 5, 2) := by decide +kernel
theorem dX8_leastWatchers_89 : decode cX8_leastWatchers 89 = .ok (.ishl, 1) := by decide +kernel
theorem dX8_leastWatchers_90 : decode cX8_leastWatchers 90 = .ok (.ior, 1) := by decide +kernel
theorem dX8_leastWatchers_91 : decode cX8_leastWatchers 91 = .ok (.ireturn, 1) := by decide +kernel
theorem dX9_init_0 : decode cX9_init 0 = .ok (.aload_n 0, 1) := by decide +kernel
theorem dX9_init_1 : decode cX9_init 1 = .ok (.invokespecial 3, 3) := by decide +kernel
theorem dX9_init_4 : decode cX9_init 4 = .ok (.aload_n 0, 1) := by decide +kernel
theorem dX9_init_5 : decode cX9_init 5 = .ok (.aload_n 1, 1) := by decide +kernel
theorem dX9_init_6 : decode cX9_init 6 = .ok (.putfield 9, 3) := by decide +kernel
theorem dX9_init_9 : decode cX9_init 9 = .ok (.return_, 1) := by decide +kernel
theorem dX9_readTerrace_0 : decode cX9_readTerrace 0 = .ok (.aload_n 0, 1) := by decide +kernel
theorem dX9_readTerrace_1 : decode cX9_readTerrace 1 = .ok (.getfield 9, 3) := by decide +kernel
theorem dX9_readTerrace_4 : decode cX9_readTerrace 4 = .ok (.iload_n 1, 1) := by decide +kernel
theorem dX9_readTerrace_5 : decode cX9_readTerrace 5 = .ok (.invokevirtual 15, 3) := by decide +kernel
theorem dX9_readTerrace_8 : decode cX9_readTerrace 8 = .ok (.aload_n 2, 1) := by decide +kernel
theorem dX9_readTerrace_9 : decode cX9_readTerrace 9 = .ok (.invokevirtual 21, 3) := by decide +kernel
theorem dX9_readTerrace_12 : decode cX9_readTerrace 12 = .ok (.iconst 0, 1) := by decide +kernel
theorem dX9_readTerrace_13 : decode cX9_readTerrace 13 = .ok (.istore_n 3, 1) := by decide +kernel
theorem dX9_readTerrace_14 : decode cX9_readTerrace 14 = .ok (.iconst 1, 1) := by decide +kernel
theorem dX9_readTerrace_15 : decode cX9_readTerrace 15 = .ok (.istore 4, 2) := by decide +kernel
theorem dX9_readTerrace_17 : decode cX9_readTerrace 17 = .ok (.iload 4, 2) := by decide +kernel
theorem dX9_readTerrace_19 : decode cX9_readTerrace 19 = .ok (.ifCond .eq 30, 3) := by decide +kernel
theorem dX9_readTerrace_22 : decode cX9_readTerrace 22 = .ok (.iload_n 3, 1) := by decide +kernel
theorem dX9_readTerrace_23 : decode cX9_readTerrace 23 = .ok (.bipush 32, 2) := by decide +kernel
theorem dX9_readTerrace_25 : decode cX9_readTerrace 25 = .ok (.if_icmp .gt 24, 3) := by decide +kernel
theorem dX9_readTerrace_28 : decode cX9_readTerrace 28 = .ok (.aload_n 0, 1) := by decide +kernel
theorem dX9_readTerrace_29 : decode cX9_readTerrace 29 = .ok (.iload_n 3, 1) := by decide +kernel
theorem dX9_readTerrace_30 : decode cX9_readTerrace 30 = .ok (.aload_n 2, 1) := by decide +kernel
theorem dX9_readTerrace_31 : decode cX9_readTerrace 31 = .ok (.invokevirtual 26, 3) := by decide +kernel
theorem dX9_readTerrace_34 : decode cX9_readTerrace 34 = .ok (.iinc 3 1, 3) := by decide +kernel
theorem dX9_readTerrace_37 : decode cX9_readTerrace 37 = .ok (.aload_n 0, 1) := by decide +kernel
theorem dX9_readTerrace_38 : decode cX9_readTerrace 38 = .ok (.getfield 9, 3) := by decide +kernel
theorem dX9_readTerrace_41 : decode cX9_readTerrace 41 = .ok (.invokevirtual 30, 3) := by decide +kernel
theorem dX9_readTerrace_44 : decode cX9_readTerrace 44 = .ok (.istore 4, 2) := by decide +kernel
theorem dX9_readTerrace_46 : decode cX9_readTerrace 46 = .ok (.goto (-29), 3) := by decide +kernel
theorem dX9_readTerrace_49 : decode cX9_readTerrace 49 = .ok (.aload_n 0, 1) := by decide +kernel
theorem dX9_readTerrace_50 : decode cX9_readTerrace 50 = .ok (.getfield 9, 3) := by decide +kernel
theorem dX9_readTerrace_53 : decode cX9_readTerrace 53 = .ok (.invokevirtual 34, 3) := by decide +kernel
theorem dX9_readTerrace_56 : decode cX9_readTerrace 56 = .ok (.ifCond .ne 11, 3) := by decide +kernel
theorem dX9_readTerrace_59 : decode cX9_readTerrace 59 = .ok (.aload_n 0, 1) := by decide +kernel
theorem dX9_readTerrace_60 : decode cX9_readTerrace 60 = .ok (.getfield 9, 3) := by decide +kernel
theorem dX9_readTerrace_63 : decode cX9_readTerrace 63 = .ok (.getfield 37, 3) := by decide +kernel
theorem dX9_readTerrace_66 : decode cX9_readTerrace 66 = .ok (.ireturn, 1) := by decide +kernel
theorem dX9_readTerrace_67 : decode cX9_readTerrace 67 = .ok (.aload_n 2, 1) := by decide +kernel
theorem dX9_readTerrace_68 : decode cX9_readTerrace 68 = .ok (.invokevirtual 41, 3) := by decide +kernel
theorem dX9_readTerrace_71 : decode cX9_readTerrace 71 = .ok (.iload_n 3, 1) := by decide +kernel
theorem dX9_readTerrace_72 : decode cX9_readTerrace 72 = .ok (.ireturn, 1) := by decide +kernel
theorem dX9_readLine_0 : decode cX9_readLine 0 = .ok (.aload_n 0, 1) := by decide +kernel
theorem dX9_readLine_1 : decode cX9_readLine 1 = .ok (.getfield 9, 3) := by decide +kernel
theorem dX9_readLine_4 : decode cX9_readLine 4 = .ok (.getfield 44, 3) := by decide +kernel
theorem dX9_readLine_7 : decode cX9_readLine 7 = .ok (.istore_n 3, 1) := by decide +kernel
theorem dX9_readLine_8 : decode cX9_readLine 8 = .ok (.iload_n 3, 1) := by decide +kernel
theorem dX9_readLine_9 : decode cX9_readLine 9 = .ok (.bipush 97, 2) := by decide +kernel
theorem dX9_readLine_11 : decode cX9_readLine 11 = .ok (.if_icmp .lt 13, 3) := by decide +kernel
theorem dX9_readLine_14 : decode cX9_readLine 14 = .ok (.iload_n 3, 1) := by decide +kernel
theorem dX9_readLine_15 : decode cX9_readLine 15 = .ok (.bipush 112, 2) := by decide +kernel
theorem dX9_readLine_17 : decode cX9_readLine 17 = .ok (.if_icmp .gt 7, 3) := by decide +kernel
theorem dX9_readLine_20 : decode cX9_readLine 20 = .ok (.iconst 1, 1) := by decide +kernel
theorem dX9_readLine_21 : decode cX9_readLine 21 = .ok (.goto 4, 3) := by decide +kernel
theorem dX9_readLine_24 : decode cX9_readLine 24 = .ok (.iconst 0, 1) := by decide +kernel
theorem dX9_readLine_25 : decode cX9_readLine 25 = .ok (.istore 4, 2) := by decide +kernel
theorem dX9_readLine_27 : decode cX9_readLine 27 = .ok (.iload_n 3, 1) := by decide +kernel
theorem dX9_readLine_28 : decode cX9_readLine 28 = .ok (.bipush 65, 2) := by decide +kernel
theorem dX9_readLine_30 : decode cX9_readLine 30 = .ok (.if_icmp .lt 13, 3) := by decide +kernel
theorem dX9_readLine_33 : decode cX9_readLine 33 = .ok (.iload_n 3, 1) := by decide +kernel
theorem dX9_readLine_34 : decode cX9_readLine 34 = .ok (.bipush 80, 2) := by decide +kernel
theorem dX9_readLine_36 : decode cX9_readLine 36 = .ok (.if_icmp .gt 7, 3) := by decide +kernel
theorem dX9_readLine_39 : decode cX9_readLine 39 = .ok (.iconst 1, 1) := by decide +kernel
theorem dX9_readLine_40 : decode cX9_readLine 40 = .ok (.goto 4, 3) := by decide +kernel
theorem dX9_readLine_43 : decode cX9_readLine 43 = .ok (.iconst 0, 1) := by decide +kernel
theorem dX9_readLine_44 : decode cX9_readLine 44 = .ok (.istore 5, 2) := by decide +kernel
theorem dX9_readLine_46 : decode cX9_readLine 46 = .ok (.iload 4, 2) := by decide +kernel
theorem dX9_readLine_48 : decode cX9_readLine 48 = .ok (.ifCond .ne 19, 3) := by decide +kernel
theorem dX9_readLine_51 : decode cX9_readLine 51 = .ok (.iload 5, 2) := by decide +kernel
theorem dX9_readLine_53 : decode cX9_readLine 53 = .ok (.ifCond .ne 14, 3) := by decide +kernel
theorem dX9_readLine_56 : decode cX9_readLine 56 = .ok (.aload_n 0, 1) := by decide +kernel
theorem dX9_readLine_57 : decode cX9_readLine 57 = .ok (.getfield 9, 3) := by decide +kernel
theorem dX9_readLine_60 : decode cX9_readLine 60 = .ok (.iconst 1, 1) := by decide +kernel
theorem dX9_readLine_61 : decode cX9_readLine 61 = .ok (.invokevirtual 47, 3) := by decide +kernel
theorem dX9_readLine_64 : decode cX9_readLine 64 = .ok (.goto 95, 3) := by decide +kernel
theorem dX9_readLine_67 : decode cX9_readLine 67 = .ok (.iload_n 1, 1) := by decide +kernel
theorem dX9_readLine_68 : decode cX9_readLine 68 = .ok (.bipush 32, 2) := by decide +kernel
theorem dX9_readLine_70 : decode cX9_readLine 70 = .ok (.if_icmp .lt 14, 3) := by decide +kernel
theorem dX9_readLine_73 : decode cX9_readLine 73 = .ok (.aload_n 0, 1) := by decide +kernel
theorem dX9_readLine_74 : decode cX9_readLine 74 = .ok (.getfield 9, 3) := by decide +kernel
theorem dX9_readLine_77 : decode cX9_readLine 77 = .ok (.iconst 4, 1) := by decide +kernel
theorem dX9_readLine_78 : decode cX9_readLine 78 = .ok (.invokevirtual 47, 3) := by decide +kernel
theorem dX9_readLine_81 : decode cX9_readLine 81 = .ok (.goto 78, 3) := by decide +kernel
theorem dX9_readLine_84 : decode cX9_readLine 84 = .ok (.iload 4, 2) := by decide +kernel
theorem dX9_readLine_86 : decode cX9_readLine 86 = .ok (.ifCond .eq 17, 3) := by decide +kernel
theorem dX9_readLine_89 : decode cX9_readLine 89 = .ok (.aload_n 2, 1) := by decide +kernel
theorem dX9_readLine_90 : decode cX9_readLine 90 = .ok (.iload_n 3, 1) := by decide +kernel
theorem dX9_readLine_91 : decode cX9_readLine 91 = .ok (.bipush 97, 2) := by decide +kernel
theorem dX9_readLine_93 : decode cX9_readLine 93 = .ok (.isub, 1) := by decide +kernel
theorem dX9_readLine_94 : decode cX9_readLine 94 = .ok (.invokevirtual 50, 3) := by decide +kernel
theorem dX9_readLine_97 : decode cX9_readLine 97 = .ok (.ifCond .eq 29, 3) := by decide +kernel
theorem dX9_readLine_100 : decode cX9_readLine 100 = .ok (.goto 14, 3) := by decide +kernel
theorem dX9_readLine_103 : decode cX9_readLine 103 = .ok (.aload_n 2, 1) := by decide +kernel
theorem dX9_readLine_104 : decode cX9_readLine 104 = .ok (.iload_n 3, 1) := by decide +kernel
theorem dX9_readLine_105 : decode cX9_readLine 105 = .ok (.bipush 65, 2) := by decide +kernel
theorem dX9_readLine_107 : decode cX9_readLine 107 = .ok (.isub, 1) := by decide +kernel
theorem dX9_readLine_108 : decode cX9_readLine 108 = .ok (.invokevirtual 54, 3) := by decide +kernel
theorem dX9_readLine_111 : decode cX9_readLine 111 = .ok (.ifCond .eq 15, 3) := by decide +kernel
theorem dX9_readLine_114 : decode cX9_readLine 114 = .ok (.aload_n 0, 1) := by decide +kernel
theorem dX9_readLine_115 : decode cX9_readLine 115 = .ok (.getfield 9, 3) := by decide +kernel
theorem dX9_readLine_118 : decode cX9_readLine 118 = .ok (.bipush 6, 2) := by decide +kernel
theorem dX9_readLine_120 : decode cX9_readLine 120 = .ok (.invokevirtual 47, 3) := by decide +kernel
theorem dX9_readLine_123 : decode cX9_readLine 123 = .ok (.goto 36, 3) := by decide +kernel
theorem dX9_readLine_126 : decode cX9_readLine 126 = .ok (.aload_n 0, 1) := by decide +kernel
theorem dX9_readLine_127 : decode cX9_readLine 127 = .ok (.getfield 9, 3) := by decide +kernel
theorem dX9_readLine_130 : decode cX9_readLine 130 = .ok (.invokevirtual 57, 3) := by decide +kernel
theorem dX9_readLine_133 : decode cX9_readLine 133 = .ok (.iload 4, 2) := by decide +kernel
theorem dX9_readLine_135 : decode cX9_readLine 135 = .ok (.ifCond .eq 15, 3) := by decide +kernel
theorem dX9_readLine_138 : decode cX9_readLine 138 = .ok (.aload_n 0, 1) := by decide +kernel
theorem dX9_readLine_139 : decode cX9_readLine 139 = .ok (.iload_n 3, 1) := by decide +kernel
theorem dX9_readLine_140 : decode cX9_readLine 140 = .ok (.bipush 97, 2) := by decide +kernel
theorem dX9_readLine_142 : decode cX9_readLine 142 = .ok (.isub, 1) := by decide +kernel
theorem dX9_readLine_143 : decode cX9_readLine 143 = .ok (.aload_n 2, 1) := by decide +kernel
theorem dX9_readLine_144 : decode cX9_readLine 144 = .ok (.invokevirtual 60, 3) := by decide +kernel
theorem dX9_readLine_147 : decode cX9_readLine 147 = .ok (.goto 12, 3) := by decide +kernel
theorem dX9_readLine_150 : decode cX9_readLine 150 = .ok (.aload_n 0, 1) := by decide +kernel
theorem dX9_readLine_151 : decode cX9_readLine 151 = .ok (.iload_n 3, 1) := by decide +kernel
theorem dX9_readLine_152 : decode cX9_readLine 152 = .ok (.bipush 65, 2) := by decide +kernel
theorem dX9_readLine_154 : decode cX9_readLine 154 = .ok (.isub, 1) := by decide +kernel
theorem dX9_readLine_155 : decode cX9_readLine 155 = .ok (.aload_n 2, 1) := by decide +kernel
theorem dX9_readLine_156 : decode cX9_readLine 156 = .ok (.invokevirtual 63, 3) := by decide +kernel
theorem dX9_readLine_159 : decode cX9_readLine 159 = .ok (.return_, 1) := by decide +kernel
theorem dX9_readHouse_0 : decode cX9_readHouse 0 = .ok (.aload_n 0, 1) := by decide +kernel
theorem dX9_readHouse_1 : decode cX9_readHouse 1 = .ok (.invokevirtual 66, 3) := by decide +kernel
theorem dX9_readHouse_4 : decode cX9_readHouse 4 = .ok (.istore_n 3, 1) := by decide +kernel
theorem dX9_readHouse_5 : decode cX9_readHouse 5 = .ok (.aload_n 0, 1) := by decide +kernel
theorem dX9_readHouse_6 : decode cX9_readHouse 6 = .ok (.getfield 9, 3) := by decide +kernel
theorem dX9_readHouse_9 : decode cX9_readHouse 9 = .ok (.invokevirtual 34, 3) := by decide +kernel
theorem dX9_readHouse_12 : decode cX9_readHouse 12 = .ok (.ifCond .eq 9, 3) := by decide +kernel
theorem dX9_readHouse_15 : decode cX9_readHouse 15 = .ok (.aload_n 2, 1) := by decide +kernel
theorem dX9_readHouse_16 : decode cX9_readHouse 16 = .ok (.iload_n 1, 1) := by decide +kernel
theorem dX9_readHouse_17 : decode cX9_readHouse 17 = .ok (.iload_n 3, 1) := by decide +kernel
theorem dX9_readHouse_18 : decode cX9_readHouse 18 = .ok (.invokevirtual 70, 3) := by decide +kernel
theorem dX9_readHouse_21 : decode cX9_readHouse 21 = .ok (.return_, 1) := by decide +kernel
theorem dX9_readThing_0 : decode cX9_readThing 0 = .ok (.aload_n 0, 1) := by decide +kernel
theorem dX9_readThing_1 : decode cX9_readThing 1 = .ok (.invokevirtual 66, 3) := by decide +kernel
theorem dX9_readThing_4 : decode cX9_readThing 4 = .ok (.istore_n 3, 1) := by decide +kernel
theorem dX9_readThing_5 : decode cX9_readThing 5 = .ok (.aload_n 0, 1) := by decide +kernel
theorem dX9_readThing_6 : decode cX9_readThing 6 = .ok (.getfield 9, 3) := by decide +kernel
theorem dX9_readThing_9 : decode cX9_readThing 9 = .ok (.bipush 64, 2) := by decide +kernel
theorem dX9_readThing_11 : decode cX9_readThing 11 = .ok (.invokevirtual 74, 3) := by decide +kernel
theorem dX9_readThing_14 : decode cX9_readThing 14 = .ok (.aload_n 0, 1) := by decide +kernel
theorem dX9_readThing_15 : decode cX9_readThing 15 = .ok (.invokevirtual 66, 3) := by decide +kernel
theorem dX9_readThing_18 : decode cX9_readThing 18 = .ok (.istore 4, 2) := by decide +kernel
theorem dX9_readThing_20 : decode cX9_readThing 20 = .ok (.aload_n 0, 1) := by decide +kernel
theorem dX9_readThing_21 : decode cX9_readThing 21 = .ok (.getfield 9, 3) := by decide +kernel
theorem dX9_readThing_24 : decode cX9_readThing 24 = .ok (.bipush 45, 2) := by decide +kernel
theorem dX9_readThing_26 : decode cX9_readThing 26 = .ok (.invokevirtual 74, 3) := by decide +kernel
theorem dX9_readThing_29 : decode cX9_readThing 29 = .ok (.aload_n 0, 1) := by decide +kernel
theorem dX9_readThing_30 : decode cX9_readThing 30 = .ok (.invokevirtual 66, 3) := by decide +kernel
theorem dX9_readThing_33 : decode cX9_readThing 33 = .ok (.istore 5, 2) := by decide +kernel
theorem dX9_readThing_35 : decode cX9_readThing 35 = .ok (.aload_n 0, 1) := by decide +kernel
theorem dX9_readThing_36 : decode cX9_readThing 36 = .ok (.getfield 9, 3) := by decide +kernel
theorem dX9_readThing_39 : decode cX9_readThing 39 = .ok (.invokevirtual 34, 3) := by decide +kernel
theorem dX9_readThing_42 : decode cX9_readThing 42 = .ok (.ifCond .eq 13, 3) := by decide +kernel
theorem dX9_readThing_45 : decode cX9_readThing 45 = .ok (.aload_n 2, 1) := by decide +kernel
theorem dX9_readThing_46 : decode cX9_readThing 46 = .ok (.iload_n 1, 1) := by decide +kernel
theorem dX9_readThing_47 : decode cX9_readThing 47 = .ok (.iload_n 3, 1) := by decide +kernel
theorem dX9_readThing_48 : decode cX9_readThing 48 = .ok (.iload 4, 2) := by decide +kernel
theorem dX9_readThing_50 : decode cX9_readThing 50 = .ok (.iload 5, 2) := by decide +kernel
theorem dX9_readThing_52 : decode cX9_readThing 52 = .ok (.invokevirtual 77, 3) := by decide +kernel
theorem dX9_readThing_55 : decode cX9_readThing 55 = .ok (.return_, 1) := by decide +kernel
theorem dX9_readWay_0 : decode cX9_readWay 0 = .ok (.aload_n 0, 1) := by decide +kernel
theorem dX9_readWay_1 : decode cX9_readWay 1 = .ok (.getfield 9, 3) := by decide +kernel
theorem dX9_readWay_4 : decode cX9_readWay 4 = .ok (.getfield 81, 3) := by decide +kernel
theorem dX9_readWay_7 : decode cX9_readWay 7 = .ok (.istore_n 1, 1) := by decide +kernel
theorem dX9_readWay_8 : decode cX9_readWay 8 = .ok (.aload_n 0, 1) := by decide +kernel
theorem dX9_readWay_9 : decode cX9_readWay 9 = .ok (.getfield 9, 3) := by decide +kernel
theorem dX9_readWay_12 : decode cX9_readWay 12 = .ok (.iconst 2, 1) := by decide +kernel
theorem dX9_readWay_13 : decode cX9_readWay 13 = .ok (.invokevirtual 84, 3) := by decide +kernel
theorem dX9_readWay_16 : decode cX9_readWay 16 = .ok (.istore_n 2, 1) := by decide +kernel
theorem dX9_readWay_17 : decode cX9_readWay 17 = .ok (.iload_n 2, 1) := by decide +kernel
theorem dX9_readWay_18 : decode cX9_readWay 18 = .ok (.bipush 11, 2) := by decide +kernel
theorem dX9_readWay_20 : decode cX9_readWay 20 = .ok (.if_icmp .le 12, 3) := by decide +kernel
theorem dX9_readWay_23 : decode cX9_readWay 23 = .ok (.aload_n 0, 1) := by decide +kernel
theorem dX9_readWay_24 : decode cX9_readWay 24 = .ok (.getfield 9, 3) := by decide +kernel
theorem dX9_readWay_27 : decode cX9_readWay 27 = .ok (.iconst 3, 1) := by decide +kernel
theorem dX9_readWay_28 : decode cX9_readWay 28 = .ok (.iload_n 1, 1) := by decide +kernel
theorem dX9_readWay_29 : decode cX9_readWay 29 = .ok (.invokevirtual 88, 3) := by decide +kernel
theorem dX9_readWay_32 : decode cX9_readWay 32 = .ok (.iload_n 2, 1) := by decide +kernel
theorem dX9_readWay_33 : decode cX9_readWay 33 = .ok (.ireturn, 1) := by decide +kernel
theorem dX10_init_0 : decode cX10_init 0 = .ok (.aload_n 0, 1) := by decide +kernel
theorem dX10_init_1 : decode cX10_init 1 = .ok (.invokespecial 3, 3) := by decide +kernel
theorem dX10_init_4 : decode cX10_init 4 = .ok (.aload_n 0, 1) := by decide +kernel
theorem dX10_init_5 : decode cX10_init 5 = .ok (.bipush 6, 2) := by decide +kernel
theorem dX10_init_7 : decode cX10_init 7 = .ok (.newarray .int, 2) := by decide +kernel
theorem dX10_init_9 : decode cX10_init 9 = .ok (.putfield 11, 3) := by decide +kernel
theorem dX10_init_12 : decode cX10_init 12 = .ok (.aload_n 0, 1) := by decide +kernel
theorem dX10_init_13 : decode cX10_init 13 = .ok (.bipush 6, 2) := by decide +kernel
theorem dX10_init_15 : decode cX10_init 15 = .ok (.newarray .int, 2) := by decide +kernel
theorem dX10_init_17 : decode cX10_init 17 = .ok (.putfield 15, 3) := by decide +kernel
theorem dX10_init_20 : decode cX10_init 20 = .ok (.aload_n 0, 1) := by decide +kernel
theorem dX10_init_21 : decode cX10_init 21 = .ok (.bipush 6, 2) := by decide +kernel
theorem dX10_init_23 : decode cX10_init 23 = .ok (.newarray .int, 2) := by decide +kernel
theorem dX10_init_25 : decode cX10_init 25 = .ok (.putfield 18, 3) := by decide +kernel
theorem dX10_init_28 : decode cX10_init 28 = .ok (.aload_n 0, 1) := by decide +kernel
theorem dX10_init_29 : decode cX10_init 29 = .ok (.sipush 384, 3) := by decide +kernel
theorem dX10_init_32 : decode cX10_init 32 = .ok (.newarray .int, 2) := by decide +kernel
theorem dX10_init_34 : decode cX10_init 34 = .ok (.putfield 21, 3) := by decide +kernel
theorem dX10_init_37 : decode cX10_init 37 = .ok (.aload_n 0, 1) := by decide +kernel
theorem dX10_init_38 : decode cX10_init 38 = .ok (.iconst 0, 1) := by decide +kernel
theorem dX10_init_39 : decode cX10_init 39 = .ok (.putfield 24, 3) := by decide +kernel
theorem dX10_init_42 : decode cX10_init 42 = .ok (.return_, 1) := by decide +kernel
theorem dX10_take_0 : decode cX10_take 0 = .ok (.iconst 1, 1) := by decide +kernel
theorem dX10_take_1 : decode cX10_take 1 = .ok (.istore 4, 2) := by decide +kernel
theorem dX10_take_3 : decode cX10_take 3 = .ok (.aload_n 0, 1) := by decide +kernel
theorem dX10_take_4 : decode cX10_take 4 = .ok (.iload_n 2, 1) := by decide +kernel
theorem dX10_take_5 : decode cX10_take 5 = .ok (.bipush 6, 2) := by decide +kernel
theorem dX10_take_7 : decode cX10_take 7 = .ok (.invokestatic 28, 3) := by decide +kernel
theorem dX10_take_10 : decode cX10_take 10 = .ok (.putfield 24, 3) := by decide +kernel
theorem dX10_take_13 : decode cX10_take 13 = .ok (.iconst 0, 1) := by decide +kernel
theorem dX10_take_14 : decode cX10_take 14 = .ok (.istore 5, 2) := by decide +kernel
theorem dX10_take_16 : decode cX10_take 16 = .ok (.iload 5, 2) := by decide +kernel
theorem dX10_take_18 : decode cX10_take 18 = .ok (.aload_n 0, 1) := by decide +kernel
theorem dX10_take_19 : decode cX10_take 19 = .ok (.getfield 24, 3) := by decide +kernel
theorem dX10_take_22 : decode cX10_take 22 = .ok (.if_icmp .ge 81, 3) := by decide +kernel
theorem dX10_take_25 : decode cX10_take 25 = .ok (.aload_n 0, 1) := by decide +kernel
theorem dX10_take_26 : decode cX10_take 26 = .ok (.getfield 11, 3) := by decide +kernel
theorem dX10_take_29 : decode cX10_take 29 = .ok (.iload 5, 2) := by decide +kernel
theorem dX10_take_31 : decode cX10_take 31 = .ok (.aload_n 1, 1) := by decide +kernel
theorem dX10_take_32 : decode cX10_take 32 = .ok (.iconst 2, 1) := by decide +kernel
theorem dX10_take_33 : decode cX10_take 33 = .ok (.iload 5, 2) := by decide +kernel
theorem dX10_take_35 : decode cX10_take 35 = .ok (.imul, 1) := by decide +kernel
theorem dX10_take_36 : decode cX10_take 36 = .ok (.invokevirtual 34, 3) := by decide +kernel
theorem dX10_take_39 : decode cX10_take 39 = .ok (.iastore, 1) := by decide +kernel
theorem dX10_take_40 : decode cX10_take 40 = .ok (.aload_n 0, 1) := by decide +kernel
theorem dX10_take_41 : decode cX10_take 41 = .ok (.getfield 15, 3) := by decide +kernel
theorem dX10_take_44 : decode cX10_take 44 = .ok (.iload 5, 2) := by decide +kernel
theorem dX10_take_46 : decode cX10_take 46 = .ok (.aload_n 1, 1) := by decide +kernel
theorem dX10_take_47 : decode cX10_take 47 = .ok (.iconst 2, 1) := by decide +kernel
theorem dX10_take_48 : decode cX10_take 48 = .ok (.iload 5, 2) := by decide +kernel
theorem dX10_take_50 : decode cX10_take 50 = .ok (.imul, 1) := by decide +kernel
theorem dX10_take_51 : decode cX10_take 51 = .ok (.iconst 1, 1) := by decide +kernel
theorem dX10_take_52 : decode cX10_take 52 = .ok (.iadd, 1) := by decide +kernel
theorem dX10_take_53 : decode cX10_take 53 = .ok (.invokevirtual 34, 3) := by decide +kernel
theorem dX10_take_56 : decode cX10_take 56 = .ok (.iastore, 1) := by decide +kernel
theorem dX10_take_57 : decode cX10_take 57 = .ok (.iload 4, 2) := by decide +kernel
theorem dX10_take_59 : decode cX10_take 59 = .ok (.ifCond .eq 35, 3) := by decide +kernel
theorem dX10_take_62 : decode cX10_take 62 = .ok (.aload_n 3, 1) := by decide +kernel
theorem dX10_take_63 : decode cX10_take 63 = .ok (.aload_n 0, 1) := by decide +kernel
theorem dX10_take_64 : decode cX10_take 64 = .ok (.getfield 11, 3) := by decide +kernel
theorem dX10_take_67 : decode cX10_take 67 = .ok (.iload 5, 2) := by decide +kernel
theorem dX10_take_69 : decode cX10_take 69 = .ok (.iaload, 1) := by decide +kernel
theorem dX10_take_70 : decode cX10_take 70 = .ok (.invokevirtual 40, 3) := by decide +kernel
theorem dX10_take_73 : decode cX10_take 73 = .ok (.ifCond .eq 21, 3) := by decide +kernel
theorem dX10_take_76 : decode cX10_take 76 = .ok (.aload_n 3, 1) := by decide +kernel
theorem dX10_take_77 : decode cX10_take 77 = .ok (.aload_n 0, 1) := by decide +kernel
theorem dX10_take_78 : decode cX10_take 78 = .ok (.getfield 15, 3) := by decide +kernel
theorem dX10_take_81 : decode cX10_take 81 = .ok (.iload 5, 2) := by decide +kernel
theorem dX10_take_83 : decode cX10_take 83 = .ok (.iaload, 1) := by decide +kernel
theorem dX10_take_84 : decode cX10_take 84 = .ok (.invokevirtual 46, 3) := by decide +kernel
theorem dX10_take_87 : decode cX10_take 87 = .ok (.ifCond .eq 7, 3) := by decide +kernel
theorem dX10_take_90 : decode cX10_take 90 = .ok (.iconst 1, 1) := by decide +kernel
theorem dX10_take_91 : decode cX10_take 91 = .ok (.goto 4, 3) := by decide +kernel
theorem dX10_take_94 : decode cX10_take 94 = .ok (.iconst 0, 1) := by decide +kernel
theorem dX10_take_95 : decode cX10_take 95 = .ok (.istore 4, 2) := by decide +kernel
theorem dX10_take_97 : decode cX10_take 97 = .ok (.iinc 5 1, 3) := by decide +kernel
theorem dX10_take_100 : decode cX10_take 100 = .ok (.goto (-84), 3) := by decide +kernel
theorem dX10_take_103 : decode cX10_take 103 = .ok (.iload 4, 2) := by decide +kernel
theorem dX10_take_105 : decode cX10_take 105 = .ok (.ireturn, 1) := by decide +kernel
theorem dX10_answer_0 : decode cX10_answer 0 = .ok (.iconst 0, 1) := by decide +kernel
theorem dX10_answer_1 : decode cX10_answer 1 = .ok (.istore_n 3, 1) := by decide +kernel
theorem dX10_answer_2 : decode cX10_answer 2 = .ok (.iload_n 3, 1) := by decide +kernel
theorem dX10_answer_3 : decode cX10_answer 3 = .ok (.sipush 384, 3) := by decide +kernel
theorem dX10_answer_6 : decode cX10_answer 6 = .ok (.if_icmp .ge 17, 3) := by decide +kernel
theorem dX10_answer_9 : decode cX10_answer 9 = .ok (.aload_n 0, 1) := by decide +kernel
theorem dX10_answer_10 : decode cX10_answer 10 = .ok (.getfield 21, 3) := by decide +kernel
theorem dX10_answer_13 : decode cX10_answer 13 = .ok (.iload_n 3, 1) := by decide +kernel
theorem dX10_answer_14 : decode cX10_answer 14 = .ok (.ldc 49, 2) := by decide +kernel
theorem dX10_answer_16 : decode cX10_answer 16 = .ok (.iastore, 1) := by decide +kernel
theorem dX10_answer_17 : decode cX10_answer 17 = .ok (.iinc 3 1, 3) := by decide +kernel
theorem dX10_answer_20 : decode cX10_answer 20 = .ok (.goto (-18), 3) := by decide +kernel
theorem dX10_answer_23 : decode cX10_answer 23 = .ok (.iconst 0, 1) := by decide +kernel
theorem dX10_answer_24 : decode cX10_answer 24 = .ok (.istore_n 3, 1) := by decide +kernel
theorem dX10_answer_25 : decode cX10_answer 25 = .ok (.iload_n 3, 1) := by decide +kernel
theorem dX10_answer_26 : decode cX10_answer 26 = .ok (.bipush 12, 2) := by decide +kernel
theorem dX10_answer_28 : decode cX10_answer 28 = .ok (.if_icmp .ge 15, 3) := by decide +kernel
theorem dX10_answer_31 : decode cX10_answer 31 = .ok (.aload_n 0, 1) := by decide +kernel
theorem dX10_answer_32 : decode cX10_answer 32 = .ok (.aload_n 1, 1) := by decide +kernel
theorem dX10_answer_33 : decode cX10_answer 33 = .ok (.iload_n 3, 1) := by decide +kernel
theorem dX10_answer_34 : decode cX10_answer 34 = .ok (.invokevirtual 50, 3) := by decide +kernel
theorem dX10_answer_37 : decode cX10_answer 37 = .ok (.iinc 3 1, 3) := by decide +kernel
theorem dX10_answer_40 : decode cX10_answer 40 = .ok (.goto (-15), 3) := by decide +kernel
theorem dX10_answer_43 : decode cX10_answer 43 = .ok (.ldc 49, 2) := by decide +kernel
theorem dX10_answer_45 : decode cX10_answer 45 = .ok (.istore_n 3, 1) := by decide +kernel
theorem dX10_answer_46 : decode cX10_answer 46 = .ok (.iconst 0, 1) := by decide +kernel
theorem dX10_answer_47 : decode cX10_answer 47 = .ok (.istore 4, 2) := by decide +kernel
theorem dX10_answer_49 : decode cX10_answer 49 = .ok (.iload 4, 2) := by decide +kernel
theorem dX10_answer_51 : decode cX10_answer 51 = .ok (.aload_n 0, 1) := by decide +kernel
theorem dX10_answer_52 : decode cX10_answer 52 = .ok (.getfield 24, 3) := by decide +kernel
theorem dX10_answer_55 : decode cX10_answer 55 = .ok (.if_icmp .ge 33, 3) := by decide +kernel
theorem dX10_answer_58 : decode cX10_answer 58 = .ok (.iload_n 3, 1) := by decide +kernel
theorem dX10_answer_59 : decode cX10_answer 59 = .ok (.aload_n 0, 1) := by decide +kernel
theorem dX10_answer_60 : decode cX10_answer 60 = .ok (.getfield 21, 3) := by decide +kernel
theorem dX10_answer_63 : decode cX10_answer 63 = .ok (.iconst 1, 1) := by decide +kernel
theorem dX10_answer_64 : decode cX10_answer 64 = .ok (.aload_n 0, 1) := by decide +kernel
theorem dX10_answer_65 : decode cX10_answer 65 = .ok (.getfield 24, 3) := by decide +kernel
theorem dX10_answer_68 : decode cX10_answer 68 = .ok (.ishl, 1) := by decide +kernel
theorem dX10_answer_69 : decode cX10_answer 69 = .ok (.iconst 1, 1) := by decide +kernel
theorem dX10_answer_70 : decode cX10_answer 70 = .ok (.isub, 1) := by decide +kernel
theorem dX10_answer_71 : decode cX10_answer 71 = .ok (.bipush 6, 2) := by decide +kernel
theorem dX10_answer_73 : decode cX10_answer 73 = .ok (.imul, 1) := by decide +kernel
theorem dX10_answer_74 : decode cX10_answer 74 = .ok (.iload 4, 2) := by decide +kernel
theorem dX10_answer_76 : decode cX10_answer 76 = .ok (.iadd, 1) := by decide +kernel
theorem dX10_answer_77 : decode cX10_answer 77 = .ok (.iaload, 1) := by decide +kernel
theorem dX10_answer_78 : decode cX10_answer 78 = .ok (.invokestatic 28, 3) := by decide +kernel
theorem dX10_answer_81 : decode cX10_answer 81 = .ok (.istore_n 3, 1) := by decide +kernel
theorem dX10_answer_82 : decode cX10_answer 82 = .ok (.iinc 4 1, 3) := by decide +kernel
theorem dX10_answer_85 : decode cX10_answer 85 = .ok (.goto (-36), 3) := by decide +kernel
theorem dX10_answer_88 : decode cX10_answer 88 = .ok (.iload_n 3, 1) := by decide +kernel
theorem dX10_answer_89 : decode cX10_answer 89 = .ok (.ldc 49, 2) := by decide +kernel
theorem dX10_answer_91 : decode cX10_answer 91 = .ok (.if_icmp .lt 6, 3) := by decide +kernel
theorem dX10_answer_94 : decode cX10_answer 94 = .ok (.bipush (-2), 2) := by decide +kernel
theorem dX10_answer_96 : decode cX10_answer 96 = .ok (.ireturn, 1) := by decide +kernel
theorem dX10_answer_97 : decode cX10_answer 97 = .ok (.iload_n 2, 1) := by decide +kernel
theorem dX10_answer_98 : decode cX10_answer 98 = .ok (.ifCond .ne 10, 3) := by decide +kernel
theorem dX10_answer_101 : decode cX10_answer 101 = .ok (.iload_n 3, 1) := by decide +kernel
theorem dX10_answer_102 : decode cX10_answer 102 = .ok (.bipush 16, 2) := by decide +kernel
theorem dX10_answer_104 : decode cX10_answer 104 = .ok (.idiv, 1) := by decide +kernel
theorem dX10_answer_105 : decode cX10_answer 105 = .ok (.goto 7, 3) := by decide +kernel
theorem dX10_answer_108 : decode cX10_answer 108 = .ok (.iload_n 3, 1) := by decide +kernel
theorem dX10_answer_109 : decode cX10_answer 109 = .ok (.bipush 16, 2) := by decide +kernel
theorem dX10_answer_111 : decode cX10_answer 111 = .ok (.irem, 1) := by decide +kernel
theorem dX10_answer_112 : decode cX10_answer 112 = .ok (.ireturn, 1) := by decide +kernel
theorem dX10_tryTurn_0 : decode cX10_tryTurn 0 = .ok (.iconst 0, 1) := by decide +kernel
theorem dX10_tryTurn_1 : decode cX10_tryTurn 1 = .ok (.istore_n 3, 1) := by decide +kernel
theorem dX10_tryTurn_2 : decode cX10_tryTurn 2 = .ok (.iload_n 3, 1) := by decide +kernel
theorem dX10_tryTurn_3 : decode cX10_tryTurn 3 = .ok (.aload_n 0, 1) := by decide +kernel
theorem dX10_tryTurn_4 : decode cX10_tryTurn 4 = .ok (.getfield 24, 3) := by decide +kernel
theorem dX10_tryTurn_7 : decode cX10_tryTurn 7 = .ok (.if_icmp .ge 36, 3) := by decide +kernel
theorem dX10_tryTurn_10 : decode cX10_tryTurn 10 = .ok (.aload_n 0, 1) := by decide +kernel
theorem dX10_tryTurn_11 : decode cX10_tryTurn 11 = .ok (.getfield 18, 3) := by decide +kernel
theorem dX10_tryTurn_14 : decode cX10_tryTurn 14 = .ok (.iload_n 3, 1) := by decide +kernel
theorem dX10_tryTurn_15 : decode cX10_tryTurn 15 = .ok (.aload_n 0, 1) := by decide +kernel
theorem dX10_tryTurn_16 : decode cX10_tryTurn 16 = .ok (.aload_n 1, 1) := by decide +kernel
theorem dX10_tryTurn_17 : decode cX10_tryTurn 17 = .ok (.aload_n 0, 1) := by decide +kernel
theorem dX10_tryTurn_18 : decode cX10_tryTurn 18 = .ok (.getfield 11, 3) := by decide +kernel
theorem dX10_tryTurn_21 : decode cX10_tryTurn 21 = .ok (.iload_n 3, 1) := by decide +kernel
theorem dX10_tryTurn_22 : decode cX10_tryTurn 22 = .ok (.iaload, 1) := by decide +kernel
theorem dX10_tryTurn_23 : decode cX10_tryTurn 23 = .ok (.iload_n 2, 1) := by decide +kernel
theorem dX10_tryTurn_24 : decode cX10_tryTurn 24 = .ok (.invokevirtual 54, 3) := by decide +kernel
theorem dX10_tryTurn_27 : decode cX10_tryTurn 27 = .ok (.aload_n 0, 1) := by decide +kernel
theorem dX10_tryTurn_28 : decode cX10_tryTurn 28 = .ok (.getfield 11, 3) := by decide +kernel
theorem dX10_tryTurn_31 : decode cX10_tryTurn 31 = .ok (.iload_n 3, 1) := by decide +kernel
theorem dX10_tryTurn_32 : decode cX10_tryTurn 32 = .ok (.iaload, 1) := by decide +kernel
theorem dX10_tryTurn_33 : decode cX10_tryTurn 33 = .ok (.invokevirtual 57, 3) := by decide +kernel
theorem dX10_tryTurn_36 : decode cX10_tryTurn 36 = .ok (.iastore, 1) := by decide +kernel
theorem dX10_tryTurn_37 : decode cX10_tryTurn 37 = .ok (.iinc 3 1, 3) := by decide +kernel
theorem dX10_tryTurn_40 : decode cX10_tryTurn 40 = .ok (.goto (-38), 3) := by decide +kernel
theorem dX10_tryTurn_43 : decode cX10_tryTurn 43 = .ok (.iconst 1, 1) := by decide +kernel
theorem dX10_tryTurn_44 : decode cX10_tryTurn 44 = .ok (.aload_n 0, 1) := by decide +kernel
theorem dX10_tryTurn_45 : decode cX10_tryTurn 45 = .ok (.getfield 24, 3) := by decide +kernel
theorem dX10_tryTurn_48 : decode cX10_tryTurn 48 = .ok (.ishl, 1) := by decide +kernel
theorem dX10_tryTurn_49 : decode cX10_tryTurn 49 = .ok (.iconst 1, 1) := by decide +kernel
theorem dX10_tryTurn_50 : decode cX10_tryTurn 50 = .ok (.isub, 1) := by decide +kernel
theorem dX10_tryTurn_51 : decode cX10_tryTurn 51 = .ok (.istore_n 3, 1) := by decide +kernel
theorem dX10_tryTurn_52 : decode cX10_tryTurn 52 = .ok (.iload_n 3, 1) := by decide +kernel
theorem dX10_tryTurn_53 : decode cX10_tryTurn 53 = .ok (.ifCond .lt 83, 3) := by decide +kernel
theorem dX10_tryTurn_56 : decode cX10_tryTurn 56 = .ok (.iconst 0, 1) := by decide +kernel
theorem dX10_tryTurn_57 : decode cX10_tryTurn 57 = .ok (.istore 4, 2) := by decide +kernel
theorem dX10_tryTurn_59 : decode cX10_tryTurn 59 = .ok (.iload 4, 2) := by decide +kernel
theorem dX10_tryTurn_61 : decode cX10_tryTurn 61 = .ok (.aload_n 0, 1) := by decide +kernel
theorem dX10_tryTurn_62 : decode cX10_tryTurn 62 = .ok (.getfield 24, 3) := by decide +kernel
theorem dX10_tryTurn_65 : decode cX10_tryTurn 65 = .ok (.if_icmp .ge 65, 3) := by decide +kernel
theorem dX10_tryTurn_68 : decode cX10_tryTurn 68 = .ok (.iload_n 3, 1) := by decide +kernel
theorem dX10_tryTurn_69 : decode cX10_tryTurn 69 = .ok (.aload_n 0, 1) := by decide +kernel
theorem dX10_tryTurn_70 : decode cX10_tryTurn 70 = .ok (.getfield 18, 3) := by decide +kernel
theorem dX10_tryTurn_73 : decode cX10_tryTurn 73 = .ok (.iload 4, 2) := by decide +kernel
theorem dX10_tryTurn_75 : decode cX10_tryTurn 75 = .ok (.iaload, 1) := by decide +kernel
theorem dX10_tryTurn_76 : decode cX10_tryTurn 76 = .ok (.ior, 1) := by decide +kernel
theorem dX10_tryTurn_77 : decode cX10_tryTurn 77 = .ok (.istore 5, 2) := by decide +kernel
theorem dX10_tryTurn_79 : decode cX10_tryTurn 79 = .ok (.iload 5, 2) := by decide +kernel
theorem dX10_tryTurn_81 : decode cX10_tryTurn 81 = .ok (.iload_n 3, 1) := by decide +kernel
theorem dX10_tryTurn_82 : decode cX10_tryTurn 82 = .ok (.if_icmp .eq 42, 3) := by decide +kernel
theorem dX10_tryTurn_85 : decode cX10_tryTurn 85 = .ok (.iload 5, 2) := by decide +kernel
theorem dX10_tryTurn_87 : decode cX10_tryTurn 87 = .ok (.bipush 6, 2) := by decide +kernel
theorem dX10_tryTurn_89 : decode cX10_tryTurn 89 = .ok (.imul, 1) := by decide +kernel
theorem dX10_tryTurn_90 : decode cX10_tryTurn 90 = .ok (.iload 4, 2) := by decide +kernel
theorem dX10_tryTurn_92 : decode cX10_tryTurn 92 = .ok (.iadd, 1) := by decide +kernel
theorem dX10_tryTurn_93 : decode cX10_tryTurn 93 = .ok (.istore 6, 2) := by decide +kernel
theorem dX10_tryTurn_95 : decode cX10_tryTurn 95 = .ok (.aload_n 0, 1) := by decide +kernel
theorem dX10_tryTurn_96 : decode cX10_tryTurn 96 = .ok (.getfield 21, 3) := by decide +kernel
theorem dX10_tryTurn_99 : decode cX10_tryTurn 99 = .ok (.iload 6, 2) := by decide +kernel
theorem dX10_tryTurn_101 : decode cX10_tryTurn 101 = .ok (.aload_n 0, 1) := by decide +kernel
theorem dX10_tryTurn_102 : decode cX10_tryTurn 102 = .ok (.getfield 21, 3) := by decide +kernel
theorem dX10_tryTurn_105 : decode cX10_tryTurn 105 = .ok (.iload 6, 2) := by decide +kernel
theorem dX10_tryTurn_107 : decode cX10_tryTurn 107 = .ok (.iaload, 1) := by decide +kernel
theorem dX10_tryTurn_108 : decode cX10_tryTurn 108 = .ok (.aload_n 0, 1) := by decide +kernel
theorem dX10_tryTurn_109 : decode cX10_tryTurn 109 = .ok (.iload_n 3, 1) := by decide +kernel
theorem dX10_tryTurn_110 : decode cX10_tryTurn 110 = .ok (.aload_n 0, 1) := by decide +kernel
theorem dX10_tryTurn_111 : decode cX10_tryTurn 111 = .ok (.getfield 11, 3) := by decide +kernel
theorem dX10_tryTurn_114 : decode cX10_tryTurn 114 = .ok (.iload 4, 2) := by decide +kernel
theorem dX10_tryTurn_116 : decode cX10_tryTurn 116 = .ok (.iaload, 1) := by decide +kernel
theorem dX10_tryTurn_117 : decode cX10_tryTurn 117 = .ok (.invokevirtual 60, 3) := by decide +kernel
theorem dX10_tryTurn_120 : decode cX10_tryTurn 120 = .ok (.invokestatic 28, 3) := by decide +kernel
theorem dX10_tryTurn_123 : decode cX10_tryTurn 123 = .ok (.iastore, 1) := by decide +kernel
theorem dX10_tryTurn_124 : decode cX10_tryTurn 124 = .ok (.iinc 4 1, 3) := by decide +kernel
theorem dX10_tryTurn_127 : decode cX10_tryTurn 127 = .ok (.goto (-68), 3) := by decide +kernel
theorem dX10_tryTurn_130 : decode cX10_tryTurn 130 = .ok (.iinc 3 (-1), 3) := by decide +kernel
theorem dX10_tryTurn_133 : decode cX10_tryTurn 133 = .ok (.goto (-81), 3) := by decide +kernel
theorem dX10_tryTurn_136 : decode cX10_tryTurn 136 = .ok (.return_, 1) := by decide +kernel
theorem dX10_granted_0 : decode cX10_granted 0 = .ok (.iconst 0, 1) := by decide +kernel
theorem dX10_granted_1 : decode cX10_granted 1 = .ok (.istore_n 3, 1) := by decide +kernel
theorem dX10_granted_2 : decode cX10_granted 2 = .ok (.iconst 0, 1) := by decide +kernel
theorem dX10_granted_3 : decode cX10_granted 3 = .ok (.istore 4, 2) := by decide +kernel
theorem dX10_granted_5 : decode cX10_granted 5 = .ok (.iload 4, 2) := by decide +kernel
theorem dX10_granted_7 : decode cX10_granted 7 = .ok (.aload_n 0, 1) := by decide +kernel
theorem dX10_granted_8 : decode cX10_granted 8 = .ok (.getfield 24, 3) := by decide +kernel
theorem dX10_granted_11 : decode cX10_granted 11 = .ok (.if_icmp .ge 42, 3) := by decide +kernel
theorem dX10_granted_14 : decode cX10_granted 14 = .ok (.aload_n 0, 1) := by decide +kernel
theorem dX10_granted_15 : decode cX10_granted 15 = .ok (.getfield 11, 3) := by decide +kernel
theorem dX10_granted_18 : decode cX10_granted 18 = .ok (.iload 4, 2) := by decide +kernel
theorem dX10_granted_20 : decode cX10_granted 20 = .ok (.iaload, 1) := by decide +kernel
theorem dX10_granted_21 : decode cX10_granted 21 = .ok (.iload_n 2, 1) := by decide +kernel
theorem dX10_granted_22 : decode cX10_granted 22 = .ok (.if_icmp .ne 25, 3) := by decide +kernel
theorem dX10_granted_25 : decode cX10_granted 25 = .ok (.iload_n 1, 1) := by decide +kernel
theorem dX10_granted_26 : decode cX10_granted 26 = .ok (.aload_n 0, 1) := by decide +kernel
theorem dX10_granted_27 : decode cX10_granted 27 = .ok (.getfield 15, 3) := by decide +kernel
theorem dX10_granted_30 : decode cX10_granted 30 = .ok (.iload 4, 2) := by decide +kernel
theorem dX10_granted_32 : decode cX10_granted 32 = .ok (.iaload, 1) := by decide +kernel
theorem dX10_granted_33 : decode cX10_granted 33 = .ok (.ishr, 1) := by decide +kernel
theorem dX10_granted_34 : decode cX10_granted 34 = .ok (.iconst 1, 1) := by decide +kernel
theorem dX10_granted_35 : decode cX10_granted 35 = .ok (.iand, 1) := by decide +kernel
theorem dX10_granted_36 : decode cX10_granted 36 = .ok (.iconst 1, 1) := by decide +kernel
theorem dX10_granted_37 : decode cX10_granted 37 = .ok (.if_icmp .ne 10, 3) := by decide +kernel
theorem dX10_granted_40 : decode cX10_granted 40 = .ok (.iload_n 3, 1) := by decide +kernel
theorem dX10_granted_41 : decode cX10_granted 41 = .ok (.iconst 1, 1) := by decide +kernel
theorem dX10_granted_42 : decode cX10_granted 42 = .ok (.iload 4, 2) := by decide +kernel
theorem dX10_granted_44 : decode cX10_granted 44 = .ok (.ishl, 1) := by decide +kernel
theorem dX10_granted_45 : decode cX10_granted 45 = .ok (.ior, 1) := by decide +kernel
theorem dX10_granted_46 : decode cX10_granted 46 = .ok (.istore_n 3, 1) := by decide +kernel
theorem dX10_granted_47 : decode cX10_granted 47 = .ok (.iinc 4 1, 3) := by decide +kernel
theorem dX10_granted_50 : decode cX10_granted 50 = .ok (.goto (-45), 3) := by decide +kernel
theorem dX10_granted_53 : decode cX10_granted 53 = .ok (.iload_n 3, 1) := by decide +kernel
theorem dX10_granted_54 : decode cX10_granted 54 = .ok (.ireturn, 1) := by decide +kernel
theorem dX10_costTo_0 : decode cX10_costTo 0 = .ok (.iload_n 1, 1) := by decide +kernel
theorem dX10_costTo_1 : decode cX10_costTo 1 = .ok (.ifCond .ne 5, 3) := by decide +kernel
theorem dX10_costTo_4 : decode cX10_costTo 4 = .ok (.iload_n 2, 1) := by decide +kernel
theorem dX10_costTo_5 : decode cX10_costTo 5 = .ok (.ireturn, 1) := by decide +kernel
theorem dX10_costTo_6 : decode cX10_costTo 6 = .ok (.ldc 49, 2) := by decide +kernel
theorem dX10_costTo_8 : decode cX10_costTo 8 = .ok (.istore_n 3, 1) := by decide +kernel
theorem dX10_costTo_9 : decode cX10_costTo 9 = .ok (.iconst 0, 1) := by decide +kernel
theorem dX10_costTo_10 : decode cX10_costTo 10 = .ok (.istore 4, 2) := by decide +kernel
theorem dX10_costTo_12 : decode cX10_costTo 12 = .ok (.iload 4, 2) := by decide +kernel
theorem dX10_costTo_14 : decode cX10_costTo 14 = .ok (.aload_n 0, 1) := by decide +kernel
theorem dX10_costTo_15 : decode cX10_costTo 15 = .ok (.getfield 24, 3) := by decide +kernel
theorem dX10_costTo_18 : decode cX10_costTo 18 = .ok (.if_icmp .ge 53, 3) := by decide +kernel
theorem dX10_costTo_21 : decode cX10_costTo 21 = .ok (.aload_n 0, 1) := by decide +kernel
theorem dX10_costTo_22 : decode cX10_costTo 22 = .ok (.getfield 21, 3) := by decide +kernel
theorem dX10_costTo_25 : decode cX10_costTo 25 = .ok (.iload_n 1, 1) := by decide +kernel
theorem dX10_costTo_26 : decode cX10_costTo 26 = .ok (.bipush 6, 2) := by decide +kernel
theorem dX10_costTo_28 : decode cX10_costTo 28 = .ok (.imul, 1) := by decide +kernel
theorem dX10_costTo_29 : decode cX10_costTo 29 = .ok (.iload 4, 2) := by decide +kernel
theorem dX10_costTo_31 : decode cX10_costTo 31 = .ok (.iadd, 1) := by decide +kernel
theorem dX10_costTo_32 : decode cX10_costTo 32 = .ok (.iaload, 1) := by decide +kernel
theorem dX10_costTo_33 : decode cX10_costTo 33 = .ok (.istore 5, 2) := by decide +kernel
theorem dX10_costTo_35 : decode cX10_costTo 35 = .ok (.iload 5, 2) := by decide +kernel
theorem dX10_costTo_37 : decode cX10_costTo 37 = .ok (.ldc 49, 2) := by decide +kernel
theorem dX10_costTo_39 : decode cX10_costTo 39 = .ok (.if_icmp .ge 26, 3) := by decide +kernel
theorem dX10_costTo_42 : decode cX10_costTo 42 = .ok (.iload_n 3, 1) := by decide +kernel
theorem dX10_costTo_43 : decode cX10_costTo 43 = .ok (.iload 5, 2) := by decide +kernel
theorem dX10_costTo_45 : decode cX10_costTo 45 = .ok (.bipush 16, 2) := by decide +kernel
theorem dX10_costTo_47 : decode cX10_costTo 47 = .ok (.iload_n 2, 1) := by decide +kernel
theorem dX10_costTo_48 : decode cX10_costTo 48 = .ok (.aload_n 0, 1) := by decide +kernel
theorem dX10_costTo_49 : decode cX10_costTo 49 = .ok (.getfield 11, 3) := by decide +kernel
theorem dX10_costTo_52 : decode cX10_costTo 52 = .ok (.iload 4, 2) := by decide +kernel
theorem dX10_costTo_54 : decode cX10_costTo 54 = .ok (.iaload, 1) := by decide +kernel
theorem dX10_costTo_55 : decode cX10_costTo 55 = .ok (.isub, 1) := by decide +kernel
theorem dX10_costTo_56 : decode cX10_costTo 56 = .ok (.invokestatic 63, 3) := by decide +kernel
theorem dX10_costTo_59 : decode cX10_costTo 59 = .ok (.imul, 1) := by decide +kernel
theorem dX10_costTo_60 : decode cX10_costTo 60 = .ok (.iadd, 1) := by decide +kernel
theorem dX10_costTo_61 : decode cX10_costTo 61 = .ok (.invokestatic 28, 3) := by decide +kernel
theorem dX10_costTo_64 : decode cX10_costTo 64 = .ok (.istore_n 3, 1) := by decide +kernel
theorem dX10_costTo_65 : decode cX10_costTo 65 = .ok (.iinc 4 1, 3) := by decide +kernel
theorem dX10_costTo_68 : decode cX10_costTo 68 = .ok (.goto (-56), 3) := by decide +kernel
theorem dX10_costTo_71 : decode cX10_costTo 71 = .ok (.iload_n 3, 1) := by decide +kernel
theorem dX10_costTo_72 : decode cX10_costTo 72 = .ok (.ireturn, 1) := by decide +kernel
theorem dX11_init_0 : decode cX11_init 0 = .ok (.aload_n 0, 1) := by decide +kernel
theorem dX11_init_1 : decode cX11_init 1 = .ok (.invokespecial 1, 3) := by decide +kernel
theorem dX11_init_4 : decode cX11_init 4 = .ok (.aload_n 0, 1) := by decide +kernel
theorem dX11_init_5 : decode cX11_init 5 = .ok (.new 7, 3) := by decide +kernel
theorem dX11_init_8 : decode cX11_init 8 = .ok (.dup, 1) := by decide +kernel
theorem dX11_init_9 : decode cX11_init 9 = .ok (.invokespecial 9, 3) := by decide +kernel
theorem dX11_init_12 : decode cX11_init 12 = .ok (.putfield 10, 3) := by decide +kernel
theorem dX11_init_15 : decode cX11_init 15 = .ok (.new 16, 3) := by decide +kernel
theorem dX11_init_18 : decode cX11_init 18 = .ok (.dup, 1) := by decide +kernel
theorem dX11_init_19 : decode cX11_init 19 = .ok (.aload_n 0, 1) := by decide +kernel
theorem dX11_init_20 : decode cX11_init 20 = .ok (.getfield 10, 3) := by decide +kernel
theorem dX11_init_23 : decode cX11_init 23 = .ok (.invokespecial 18, 3) := by decide +kernel
theorem dX11_init_26 : decode cX11_init 26 = .ok (.astore_n 1, 1) := by decide +kernel
theorem dX11_init_27 : decode cX11_init 27 = .ok (.aload_n 0, 1) := by decide +kernel
theorem dX11_init_28 : decode cX11_init 28 = .ok (.new 21, 3) := by decide +kernel
theorem dX11_init_31 : decode cX11_init 31 = .ok (.dup, 1) := by decide +kernel
theorem dX11_init_32 : decode cX11_init 32 = .ok (.aload_n 1, 1) := by decide +kernel
theorem dX11_init_33 : decode cX11_init 33 = .ok (.invokespecial 23, 3) := by decide +kernel
theorem dX11_init_36 : decode cX11_init 36 = .ok (.putfield 26, 3) := by decide +kernel
theorem dX11_init_39 : decode cX11_init 39 = .ok (.aload_n 0, 1) := by decide +kernel
theorem dX11_init_40 : decode cX11_init 40 = .ok (.new 30, 3) := by decide +kernel
theorem dX11_init_43 : decode cX11_init 43 = .ok (.dup, 1) := by decide +kernel
theorem dX11_init_44 : decode cX11_init 44 = .ok (.aload_n 1, 1) := by decide +kernel
theorem dX11_init_45 : decode cX11_init 45 = .ok (.invokespecial 32, 3) := by decide +kernel
theorem dX11_init_48 : decode cX11_init 48 = .ok (.putfield 33, 3) := by decide +kernel
theorem dX11_init_51 : decode cX11_init 51 = .ok (.aload_n 0, 1) := by decide +kernel
theorem dX11_init_52 : decode cX11_init 52 = .ok (.new 37, 3) := by decide +kernel
theorem dX11_init_55 : decode cX11_init 55 = .ok (.dup, 1) := by decide +kernel
theorem dX11_init_56 : decode cX11_init 56 = .ok (.aload_n 1, 1) := by decide +kernel
theorem dX11_init_57 : decode cX11_init 57 = .ok (.invokespecial 39, 3) := by decide +kernel
theorem dX11_init_60 : decode cX11_init 60 = .ok (.putfield 40, 3) := by decide +kernel
theorem dX11_init_63 : decode cX11_init 63 = .ok (.aload_n 0, 1) := by decide +kernel
theorem dX11_init_64 : decode cX11_init 64 = .ok (.new 44, 3) := by decide +kernel
theorem dX11_init_67 : decode cX11_init 67 = .ok (.dup, 1) := by decide +kernel
theorem dX11_init_68 : decode cX11_init 68 = .ok (.invokespecial 46, 3) := by decide +kernel
theorem dX11_init_71 : decode cX11_init 71 = .ok (.putfield 47, 3) := by decide +kernel
theorem dX11_init_74 : decode cX11_init 74 = .ok (.aload_n 0, 1) := by decide +kernel
theorem dX11_init_75 : decode cX11_init 75 = .ok (.new 51, 3) := by decide +kernel
theorem dX11_init_78 : decode cX11_init 78 = .ok (.dup, 1) := by decide +kernel
theorem dX11_init_79 : decode cX11_init 79 = .ok (.invokespecial 53, 3) := by decide +kernel
theorem dX11_init_82 : decode cX11_init 82 = .ok (.putfield 54, 3) := by decide +kernel
theorem dX11_init_85 : decode cX11_init 85 = .ok (.aload_n 0, 1) := by decide +kernel
theorem dX11_init_86 : decode cX11_init 86 = .ok (.new 58, 3) := by decide +kernel
theorem dX11_init_89 : decode cX11_init 89 = .ok (.dup, 1) := by decide +kernel
theorem dX11_init_90 : decode cX11_init 90 = .ok (.aload_n 0, 1) := by decide +kernel
theorem dX11_init_91 : decode cX11_init 91 = .ok (.getfield 10, 3) := by decide +kernel
theorem dX11_init_94 : decode cX11_init 94 = .ok (.invokespecial 60, 3) := by decide +kernel
theorem dX11_init_97 : decode cX11_init 97 = .ok (.putfield 61, 3) := by decide +kernel
theorem dX11_init_100 : decode cX11_init 100 = .ok (.aload_n 0, 1) := by decide +kernel
theorem dX11_init_101 : decode cX11_init 101 = .ok (.new 65, 3) := by decide +kernel
theorem dX11_init_104 : decode cX11_init 104 = .ok (.dup, 1) := by decide +kernel
theorem dX11_init_105 : decode cX11_init 105 = .ok (.invokespecial 67, 3) := by decide +kernel
theorem dX11_init_108 : decode cX11_init 108 = .ok (.putfield 68, 3) := by decide +kernel
theorem dX11_init_111 : decode cX11_init 111 = .ok (.aload_n 0, 1) := by decide +kernel
theorem dX11_init_112 : decode cX11_init 112 = .ok (.new 65, 3) := by decide +kernel
theorem dX11_init_115 : decode cX11_init 115 = .ok (.dup, 1) := by decide +kernel
theorem dX11_init_116 : decode cX11_init 116 = .ok (.invokespecial 67, 3) := by decide +kernel
theorem dX11_init_119 : decode cX11_init 119 = .ok (.putfield 72, 3) := by decide +kernel
theorem dX11_init_122 : decode cX11_init 122 = .ok (.aload_n 0, 1) := by decide +kernel
theorem dX11_init_123 : decode cX11_init 123 = .ok (.new 65, 3) := by decide +kernel
theorem dX11_init_126 : decode cX11_init 126 = .ok (.dup, 1) := by decide +kernel
theorem dX11_init_127 : decode cX11_init 127 = .ok (.invokespecial 67, 3) := by decide +kernel
theorem dX11_init_130 : decode cX11_init 130 = .ok (.putfield 75, 3) := by decide +kernel
theorem dX11_init_133 : decode cX11_init 133 = .ok (.aload_n 0, 1) := by decide +kernel
theorem dX11_init_134 : decode cX11_init 134 = .ok (.new 78, 3) := by decide +kernel
theorem dX11_init_137 : decode cX11_init 137 = .ok (.dup, 1) := by decide +kernel
theorem dX11_init_138 : decode cX11_init 138 = .ok (.invokespecial 80, 3) := by decide +kernel
theorem dX11_init_141 : decode cX11_init 141 = .ok (.putfield 81, 3) := by decide +kernel
theorem dX11_init_144 : decode cX11_init 144 = .ok (.aload_n 0, 1) := by decide +kernel
theorem dX11_init_145 : decode cX11_init 145 = .ok (.new 78, 3) := by decide +kernel
theorem dX11_init_148 : decode cX11_init 148 = .ok (.dup, 1) := by decide +kernel
theorem dX11_init_149 : decode cX11_init 149 = .ok (.invokespecial 80, 3) := by decide +kernel
theorem dX11_init_152 : decode cX11_init 152 = .ok (.putfield 85, 3) := by decide +kernel
theorem dX11_init_155 : decode cX11_init 155 = .ok (.aload_n 0, 1) := by decide +kernel
theorem dX11_init_156 : decode cX11_init 156 = .ok (.new 88, 3) := by decide +kernel
theorem dX11_init_159 : decode cX11_init 159 = .ok (.dup, 1) := by decide +kernel
theorem dX11_init_160 : decode cX11_init 160 = .ok (.invokespecial 90, 3) := by decide +kernel
theorem dX11_init_163 : decode cX11_init 163 = .ok (.putfield 91, 3) := by decide +kernel
theorem dX11_init_166 : decode cX11_init 166 = .ok (.aload_n 0, 1) := by decide +kernel
theorem dX11_init_167 : decode cX11_init 167 = .ok (.new 88, 3) := by decide +kernel
theorem dX11_init_170 : decode cX11_init 170 = .ok (.dup, 1) := by decide +kernel
theorem dX11_init_171 : decode cX11_init 171 = .ok (.invokespecial 90, 3) := by decide +kernel
theorem dX11_init_174 : decode cX11_init 174 = .ok (.putfield 95, 3) := by decide +kernel
theorem dX11_init_177 : decode cX11_init 177 = .ok (.aload_n 0, 1) := by decide +kernel
theorem dX11_init_178 : decode cX11_init 178 = .ok (.iconst 0, 1) := by decide +kernel
theorem dX11_init_179 : decode cX11_init 179 = .ok (.putfield 98, 3) := by decide +kernel
theorem dX11_init_182 : decode cX11_init 182 = .ok (.return_, 1) := by decide +kernel
theorem dX11_turn_0 : decode cX11_turn 0 = .ok (.iload_n 1, 1) := by decide +kernel
theorem dX11_turn_1 : decode cX11_turn 1 = .ok (.invokestatic 102, 3) := by decide +kernel
theorem dX11_turn_4 : decode cX11_turn 4 = .ok (.ifCond .eq 19, 3) := by decide +kernel
theorem dX11_turn_7 : decode cX11_turn 7 = .ok (.iload_n 2, 1) := by decide +kernel
theorem dX11_turn_8 : decode cX11_turn 8 = .ok (.iconst (-1), 1) := by decide +kernel
theorem dX11_turn_9 : decode cX11_turn 9 = .ok (.if_icmp .eq 16, 3) := by decide +kernel
theorem dX11_turn_12 : decode cX11_turn 12 = .ok (.aload_n 0, 1) := by decide +kernel
theorem dX11_turn_13 : decode cX11_turn 13 = .ok (.getfield 81, 3) := by decide +kernel
theorem dX11_turn_16 : decode cX11_turn 16 = .ok (.iload_n 2, 1) := by decide +kernel
theorem dX11_turn_17 : decode cX11_turn 17 = .ok (.invokevirtual 106, 3) := by decide +kernel
theorem dX11_turn_20 : decode cX11_turn 20 = .ok (.ifCond .ne 5, 3) := by decide +kernel
theorem dX11_turn_23 : decode cX11_turn 23 = .ok (.iconst 0, 1) := by decide +kernel
theorem dX11_turn_24 : decode cX11_turn 24 = .ok (.ireturn, 1) := by decide +kernel
theorem dX11_turn_25 : decode cX11_turn 25 = .ok (.aload_n 0, 1) := by decide +kernel
theorem dX11_turn_26 : decode cX11_turn 26 = .ok (.getfield 47, 3) := by decide +kernel
theorem dX11_turn_29 : decode cX11_turn 29 = .ok (.iload_n 1, 1) := by decide +kernel
theorem dX11_turn_30 : decode cX11_turn 30 = .ok (.iload_n 2, 1) := by decide +kernel
theorem dX11_turn_31 : decode cX11_turn 31 = .ok (.invokevirtual 109, 3) := by decide +kernel
theorem dX11_turn_34 : decode cX11_turn 34 = .ok (.iconst 1, 1) := by decide +kernel
theorem dX11_turn_35 : decode cX11_turn 35 = .ok (.ireturn, 1) := by decide +kernel
theorem dX11_feed_0 : decode cX11_feed 0 = .ok (.aload_n 0, 1) := by decide +kernel
theorem dX11_feed_1 : decode cX11_feed 1 = .ok (.getfield 10, 3) := by decide +kernel
theorem dX11_feed_4 : decode cX11_feed 4 = .ok (.invokevirtual 113, 3) := by decide +kernel
theorem dX11_feed_7 : decode cX11_feed 7 = .ok (.ifCond .ne 5, 3) := by decide +kernel
theorem dX11_feed_10 : decode cX11_feed 10 = .ok (.iconst (-1), 1) := by decide +kernel
theorem dX11_feed_11 : decode cX11_feed 11 = .ok (.ireturn, 1) := by decide +kernel
theorem dX11_feed_12 : decode cX11_feed 12 = .ok (.aload_n 0, 1) := by decide +kernel
theorem dX11_feed_13 : decode cX11_feed 13 = .ok (.getfield 10, 3) := by decide +kernel
theorem dX11_feed_16 : decode cX11_feed 16 = .ok (.iload_n 1, 1) := by decide +kernel
theorem dX11_feed_17 : decode cX11_feed 17 = .ok (.invokevirtual 117, 3) := by decide +kernel
theorem dX11_feed_20 : decode cX11_feed 20 = .ok (.aload_n 0, 1) := by decide +kernel
theorem dX11_feed_21 : decode cX11_feed 21 = .ok (.getfield 10, 3) := by decide +kernel
theorem dX11_feed_24 : decode cX11_feed 24 = .ok (.iload_n 2, 1) := by decide +kernel
theorem dX11_feed_25 : decode cX11_feed 25 = .ok (.invokevirtual 117, 3) := by decide +kernel
theorem dX11_feed_28 : decode cX11_feed 28 = .ok (.aload_n 0, 1) := by decide +kernel
theorem dX11_feed_29 : decode cX11_feed 29 = .ok (.getfield 10, 3) := by decide +kernel
theorem dX11_feed_32 : decode cX11_feed 32 = .ok (.iload_n 3, 1) := by decide +kernel
theorem dX11_feed_33 : decode cX11_feed 33 = .ok (.invokevirtual 117, 3) := by decide +kernel
theorem dX11_feed_36 : decode cX11_feed 36 = .ok (.aload_n 0, 1) := by decide +kernel
theorem dX11_feed_37 : decode cX11_feed 37 = .ok (.getfield 10, 3) := by decide +kernel
theorem dX11_feed_40 : decode cX11_feed 40 = .ok (.iload 4, 2) := by decide +kernel
theorem dX11_feed_42 : decode cX11_feed 42 = .ok (.invokevirtual 117, 3) := by decide +kernel
theorem dX11_feed_45 : decode cX11_feed 45 = .ok (.aload_n 0, 1) := by decide +kernel
theorem dX11_feed_46 : decode cX11_feed 46 = .ok (.getfield 10, 3) := by decide +kernel
theorem dX11_feed_49 : decode cX11_feed 49 = .ok (.iload 5, 2) := by decide +kernel
theorem dX11_feed_51 : decode cX11_feed 51 = .ok (.invokevirtual 117, 3) := by decide +kernel
theorem dX11_feed_54 : decode cX11_feed 54 = .ok (.aload_n 0, 1) := by decide +kernel
theorem dX11_feed_55 : decode cX11_feed 55 = .ok (.getfield 10, 3) := by decide +kernel
theorem dX11_feed_58 : decode cX11_feed 58 = .ok (.invokevirtual 121, 3) := by decide +kernel
theorem dX11_feed_61 : decode cX11_feed 61 = .ok (.ireturn, 1) := by decide +kernel
theorem dX11_law_0 : decode cX11_law 0 = .ok (.iload_n 1, 1) := by decide +kernel
theorem dX11_law_1 : decode cX11_law 1 = .ok (.iconst 1, 1) := by decide +kernel
theorem dX11_law_2 : decode cX11_law 2 = .ok (.if_icmp .lt 21, 3) := by decide +kernel
theorem dX11_law_5 : decode cX11_law 5 = .ok (.iload_n 1, 1) := by decide +kernel
theorem dX11_law_6 : decode cX11_law 6 = .ok (.sipush 240, 3) := by decide +kernel
theorem dX11_law_9 : decode cX11_law 9 = .ok (.if_icmp .gt 14, 3) := by decide +kernel
theorem dX11_law_12 : decode cX11_law 12 = .ok (.aload_n 0, 1) := by decide +kernel
theorem dX11_law_13 : decode cX11_law 13 = .ok (.getfield 10, 3) := by decide +kernel
theorem dX11_law_16 : decode cX11_law 16 = .ok (.iload_n 1, 1) := by decide +kernel
theorem dX11_law_17 : decode cX11_law 17 = .ok (.invokevirtual 125, 3) := by decide +kernel
theorem dX11_law_20 : decode cX11_law 20 = .ok (.ifCond .ne 5, 3) := by decide +kernel
theorem dX11_law_23 : decode cX11_law 23 = .ok (.iconst (-1), 1) := by decide +kernel
theorem dX11_law_24 : decode cX11_law 24 = .ok (.ireturn, 1) := by decide +kernel
theorem dX11_law_25 : decode cX11_law 25 = .ok (.aload_n 0, 1) := by decide +kernel
theorem dX11_law_26 : decode cX11_law 26 = .ok (.getfield 40, 3) := by decide +kernel
theorem dX11_law_29 : decode cX11_law 29 = .ok (.iload_n 1, 1) := by decide +kernel
theorem dX11_law_30 : decode cX11_law 30 = .ok (.aload_n 0, 1) := by decide +kernel
theorem dX11_law_31 : decode cX11_law 31 = .ok (.getfield 95, 3) := by decide +kernel
theorem dX11_law_34 : decode cX11_law 34 = .ok (.invokevirtual 128, 3) := by decide +kernel
theorem dX11_law_37 : decode cX11_law 37 = .ok (.istore_n 2, 1) := by decide +kernel
theorem dX11_law_38 : decode cX11_law 38 = .ok (.aload_n 0, 1) := by decide +kernel
theorem dX11_law_39 : decode cX11_law 39 = .ok (.getfield 10, 3) := by decide +kernel
theorem dX11_law_42 : decode cX11_law 42 = .ok (.invokevirtual 132, 3) := by decide +kernel
theorem dX11_law_45 : decode cX11_law 45 = .ok (.iload_n 2, 1) := by decide +kernel
theorem dX11_law_46 : decode cX11_law 46 = .ok (.ifCond .lt 21, 3) := by decide +kernel
theorem dX11_law_49 : decode cX11_law 49 = .ok (.aload_n 0, 1) := by decide +kernel
theorem dX11_law_50 : decode cX11_law 50 = .ok (.getfield 91, 3) := by decide +kernel
theorem dX11_law_53 : decode cX11_law 53 = .ok (.astore_n 3, 1) := by decide +kernel
theorem dX11_law_54 : decode cX11_law 54 = .ok (.aload_n 0, 1) := by decide +kernel
theorem dX11_law_55 : decode cX11_law 55 = .ok (.aload_n 0, 1) := by decide +kernel
theorem dX11_law_56 : decode cX11_law 56 = .ok (.getfield 95, 3) := by decide +kernel
theorem dX11_law_59 : decode cX11_law 59 = .ok (.putfield 91, 3) := by decide +kernel
theorem dX11_law_62 : decode cX11_law 62 = .ok (.aload_n 0, 1) := by decide +kernel
theorem dX11_law_63 : decode cX11_law 63 = .ok (.aload_n 3, 1) := by decide +kernel
theorem dX11_law_64 : decode cX11_law 64 = .ok (.putfield 95, 3) := by decide +kernel
theorem dX11_law_67 : decode cX11_law 67 = .ok (.iload_n 2, 1) := by decide +kernel
theorem dX11_law_68 : decode cX11_law 68 = .ok (.ireturn, 1) := by decide +kernel
theorem dX11_terrace_0 : decode cX11_terrace 0 = .ok (.iload_n 1, 1) := by decide +kernel
theorem dX11_terrace_1 : decode cX11_terrace 1 = .ok (.iconst 1, 1) := by decide +kernel
theorem dX11_terrace_2 : decode cX11_terrace 2 = .ok (.if_icmp .lt 21, 3) := by decide +kernel
theorem dX11_terrace_5 : decode cX11_terrace 5 = .ok (.iload_n 1, 1) := by decide +kernel
theorem dX11_terrace_6 : decode cX11_terrace 6 = .ok (.sipush 200, 3) := by decide +kernel
theorem dX11_terrace_9 : decode cX11_terrace 9 = .ok (.if_icmp .gt 14, 3) := by decide +kernel
theorem dX11_terrace_12 : decode cX11_terrace 12 = .ok (.aload_n 0, 1) := by decide +kernel
theorem dX11_terrace_13 : decode cX11_terrace 13 = .ok (.getfield 10, 3) := by decide +kernel
theorem dX11_terrace_16 : decode cX11_terrace 16 = .ok (.iload_n 1, 1) := by decide +kernel
theorem dX11_terrace_17 : decode cX11_terrace 17 = .ok (.invokevirtual 125, 3) := by decide +kernel
theorem dX11_terrace_20 : decode cX11_terrace 20 = .ok (.ifCond .ne 5, 3) := by decide +kernel
theorem dX11_terrace_23 : decode cX11_terrace 23 = .ok (.iconst (-1), 1) := by decide +kernel
theorem dX11_terrace_24 : decode cX11_terrace 24 = .ok (.ireturn, 1) := by decide +kernel
theorem dX11_terrace_25 : decode cX11_terrace 25 = .ok (.aload_n 0, 1) := by decide +kernel
theorem dX11_terrace_26 : decode cX11_terrace 26 = .ok (.getfield 26, 3) := by decide +kernel
theorem dX11_terrace_29 : decode cX11_terrace 29 = .ok (.iload_n 1, 1) := by decide +kernel
theorem dX11_terrace_30 : decode cX11_terrace 30 = .ok (.aload_n 0, 1) := by decide +kernel
theorem dX11_terrace_31 : decode cX11_terrace 31 = .ok (.getfield 85, 3) := by decide +kernel
theorem dX11_terrace_34 : decode cX11_terrace 34 = .ok (.invokevirtual 135, 3) := by decide +kernel
theorem dX11_terrace_37 : decode cX11_terrace 37 = .ok (.istore_n 2, 1) := by decide +kernel
theorem dX11_terrace_38 : decode cX11_terrace 38 = .ok (.aload_n 0, 1) := by decide +kernel
theorem dX11_terrace_39 : decode cX11_terrace 39 = .ok (.getfield 10, 3) := by decide +kernel
theorem dX11_terrace_42 : decode cX11_terrace 42 = .ok (.invokevirtual 132, 3) := by decide +kernel
theorem dX11_terrace_45 : decode cX11_terrace 45 = .ok (.iload_n 2, 1) := by decide +kernel
theorem dX11_terrace_46 : decode cX11_terrace 46 = .ok (.ifCond .lt 39, 3) := by decide +kernel
theorem dX11_terrace_49 : decode cX11_terrace 49 = .ok (.aload_n 0, 1) := by decide +kernel
theorem dX11_terrace_50 : decode cX11_terrace 50 = .ok (.getfield 81, 3) := by decide +kernel
theorem dX11_terrace_53 : decode cX11_terrace 53 = .ok (.astore_n 3, 1) := by decide +kernel
theorem dX11_terrace_54 : decode cX11_terrace 54 = .ok (.aload_n 0, 1) := by decide +kernel
theorem dX11_terrace_55 : decode cX11_terrace 55 = .ok (.aload_n 0, 1) := by decide +kernel
theorem dX11_terrace_56 : decode cX11_terrace 56 = .ok (.getfield 85, 3) := by decide +kernel
theorem dX11_terrace_59 : decode cX11_terrace 59 = .ok (.putfield 81, 3) := by decide +kernel
theorem dX11_terrace_62 : decode cX11_terrace 62 = .ok (.aload_n 0, 1) := by decide +kernel
theorem dX11_terrace_63 : decode cX11_terrace 63 = .ok (.aload_n 3, 1) := by decide +kernel
theorem dX11_terrace_64 : decode cX11_terrace 64 = .ok (.putfield 85, 3) := by decide +kernel
theorem dX11_terrace_67 : decode cX11_terrace 67 = .ok (.aload_n 0, 1) := by decide +kernel
theorem dX11_terrace_68 : decode cX11_terrace 68 = .ok (.getfield 47, 3) := by decide +kernel
theorem dX11_terrace_71 : decode cX11_terrace 71 = .ok (.aload_n 0, 1) := by decide +kernel
theorem dX11_terrace_72 : decode cX11_terrace 72 = .ok (.getfield 81, 3) := by decide +kernel
theorem dX11_terrace_75 : decode cX11_terrace 75 = .ok (.invokevirtual 139, 3) := by decide +kernel
theorem dX11_terrace_78 : decode cX11_terrace 78 = .ok (.aload_n 0, 1) := by decide +kernel
theorem dX11_terrace_79 : decode cX11_terrace 79 = .ok (.getfield 68, 3) := by decide +kernel
theorem dX11_terrace_82 : decode cX11_terrace 82 = .ok (.invokevirtual 143, 3) := by decide +kernel
theorem dX11_terrace_85 : decode cX11_terrace 85 = .ok (.iload_n 2, 1) := by decide +kernel
theorem dX11_terrace_86 : decode cX11_terrace 86 = .ok (.ireturn, 1) := by decide +kernel
theorem dX11_rota_0 : decode cX11_rota 0 = .ok (.iload_n 1, 1) := by decide +kernel
theorem dX11_rota_1 : decode cX11_rota 1 = .ok (.iconst 1, 1) := by decide +kernel
theorem dX11_rota_2 : decode cX11_rota 2 = .ok (.if_icmp .lt 20, 3) := by decide +kernel
theorem dX11_rota_5 : decode cX11_rota 5 = .ok (.iload_n 1, 1) := by decide +kernel
theorem dX11_rota_6 : decode cX11_rota 6 = .ok (.bipush 60, 2) := by decide +kernel
theorem dX11_rota_8 : decode cX11_rota 8 = .ok (.if_icmp .gt 14, 3) := by decide +kernel
theorem dX11_rota_11 : decode cX11_rota 11 = .ok (.aload_n 0, 1) := by decide +kernel
theorem dX11_rota_12 : decode cX11_rota 12 = .ok (.getfield 10, 3) := by decide +kernel
theorem dX11_rota_15 : decode cX11_rota 15 = .ok (.iload_n 1, 1) := by decide +kernel
theorem dX11_rota_16 : decode cX11_rota 16 = .ok (.invokevirtual 125, 3) := by decide +kernel
theorem dX11_rota_19 : decode cX11_rota 19 = .ok (.ifCond .ne 5, 3) := by decide +kernel
theorem dX11_rota_22 : decode cX11_rota 22 = .ok (.iconst (-1), 1) := by decide +kernel
theorem dX11_rota_23 : decode cX11_rota 23 = .ok (.ireturn, 1) := by decide +kernel
theorem dX11_rota_24 : decode cX11_rota 24 = .ok (.aload_n 0, 1) := by decide +kernel
theorem dX11_rota_25 : decode cX11_rota 25 = .ok (.getfield 33, 3) := by decide +kernel
theorem dX11_rota_28 : decode cX11_rota 28 = .ok (.iload_n 1, 1) := by decide +kernel
theorem dX11_rota_29 : decode cX11_rota 29 = .ok (.aload_n 0, 1) := by decide +kernel
theorem dX11_rota_30 : decode cX11_rota 30 = .ok (.getfield 81, 3) := by decide +kernel
theorem dX11_rota_33 : decode cX11_rota 33 = .ok (.aload_n 0, 1) := by decide +kernel
theorem dX11_rota_34 : decode cX11_rota 34 = .ok (.getfield 47, 3) := by decide +kernel
theorem dX11_rota_37 : decode cX11_rota 37 = .ok (.invokevirtual 146, 3) := by decide +kernel
theorem dX11_rota_40 : decode cX11_rota 40 = .ok (.istore_n 2, 1) := by decide +kernel
theorem dX11_rota_41 : decode cX11_rota 41 = .ok (.aload_n 0, 1) := by decide +kernel
theorem dX11_rota_42 : decode cX11_rota 42 = .ok (.getfield 10, 3) := by decide +kernel
theorem dX11_rota_45 : decode cX11_rota 45 = .ok (.invokevirtual 132, 3) := by decide +kernel
theorem dX11_rota_48 : decode cX11_rota 48 = .ok (.iload_n 2, 1) := by decide +kernel
theorem dX11_rota_49 : decode cX11_rota 49 = .ok (.ireturn, 1) := by decide +kernel
theorem dX11_seed_0 : decode cX11_seed 0 = .ok (.iload_n 1, 1) := by decide +kernel
theorem dX11_seed_1 : decode cX11_seed 1 = .ok (.ifCond .lt 9, 3) := by decide +kernel
theorem dX11_seed_4 : decode cX11_seed 4 = .ok (.iload_n 1, 1) := by decide +kernel
theorem dX11_seed_5 : decode cX11_seed 5 = .ok (.ldc 150, 2) := by decide +kernel
theorem dX11_seed_7 : decode cX11_seed 7 = .ok (.if_icmp .le 5, 3) := by decide +kernel
theorem dX11_seed_10 : decode cX11_seed 10 = .ok (.iconst 0, 1) := by decide +kernel
theorem dX11_seed_11 : decode cX11_seed 11 = .ok (.ireturn, 1) := by decide +kernel
theorem dX11_seed_12 : decode cX11_seed 12 = .ok (.aload_n 0, 1) := by decide +kernel
theorem dX11_seed_13 : decode cX11_seed 13 = .ok (.getfield 68, 3) := by decide +kernel
theorem dX11_seed_16 : decode cX11_seed 16 = .ok (.iload_n 1, 1) := by decide +kernel
theorem dX11_seed_17 : decode cX11_seed 17 = .ok (.putfield 151, 3) := by decide +kernel
theorem dX11_seed_20 : decode cX11_seed 20 = .ok (.iconst 1, 1) := by decide +kernel
theorem dX11_seed_21 : decode cX11_seed 21 = .ok (.ireturn, 1) := by decide +kernel
theorem dX11_days_0 : decode cX11_days 0 = .ok (.iload_n 1, 1) := by decide +kernel
theorem dX11_days_1 : decode cX11_days 1 = .ok (.iconst 1, 1) := by decide +kernel
theorem dX11_days_2 : decode cX11_days 2 = .ok (.if_icmp .lt 9, 3) := by decide +kernel
theorem dX11_days_5 : decode cX11_days 5 = .ok (.iload_n 1, 1) := by decide +kernel
theorem dX11_days_6 : decode cX11_days 6 = .ok (.bipush 100, 2) := by decide +kernel
theorem dX11_days_8 : decode cX11_days 8 = .ok (.if_icmp .le 5, 3) := by decide +kernel
theorem dX11_days_11 : decode cX11_days 11 = .ok (.iconst (-1), 1) := by decide +kernel
theorem dX11_days_12 : decode cX11_days 12 = .ok (.ireturn, 1) := by decide +kernel
theorem dX11_days_13 : decode cX11_days 13 = .ok (.aload_n 0, 1) := by decide +kernel
theorem dX11_days_14 : decode cX11_days 14 = .ok (.getfield 68, 3) := by decide +kernel
theorem dX11_days_17 : decode cX11_days 17 = .ok (.getfield 155, 3) := by decide +kernel
theorem dX11_days_20 : decode cX11_days 20 = .ok (.istore_n 2, 1) := by decide +kernel
theorem dX11_days_21 : decode cX11_days 21 = .ok (.aload_n 0, 1) := by decide +kernel
theorem dX11_days_22 : decode cX11_days 22 = .ok (.getfield 68, 3) := by decide +kernel
theorem dX11_days_25 : decode cX11_days 25 = .ok (.iload_n 1, 1) := by decide +kernel
theorem dX11_days_26 : decode cX11_days 26 = .ok (.aload_n 0, 1) := by decide +kernel
theorem dX11_days_27 : decode cX11_days 27 = .ok (.getfield 47, 3) := by decide +kernel
theorem dX11_days_30 : decode cX11_days 30 = .ok (.aload_n 0, 1) := by decide +kernel
theorem dX11_days_31 : decode cX11_days 31 = .ok (.getfield 81, 3) := by decide +kernel
theorem dX11_days_34 : decode cX11_days 34 = .ok (.aload_n 0, 1) := by decide +kernel
theorem dX11_days_35 : decode cX11_days 35 = .ok (.getfield 91, 3) := by decide +kernel
theorem dX11_days_38 : decode cX11_days 38 = .ok (.invokevirtual 158, 3) := by decide +kernel
theorem dX11_days_41 : decode cX11_days 41 = .ok (.aload_n 0, 1) := by decide +kernel
theorem dX11_days_42 : decode cX11_days 42 = .ok (.getfield 68, 3) := by decide +kernel
theorem dX11_days_45 : decode cX11_days 45 = .ok (.getfield 155, 3) := by decide +kernel
theorem dX11_days_48 : decode cX11_days 48 = .ok (.iload_n 2, 1) := by decide +kernel
theorem dX11_days_49 : decode cX11_days 49 = .ok (.isub, 1) := by decide +kernel
theorem dX11_days_50 : decode cX11_days 50 = .ok (.ireturn, 1) := by decide +kernel
theorem dX11_tried_0 : decode cX11_tried 0 = .ok (.iload_n 1, 1) := by decide +kernel
theorem dX11_tried_1 : decode cX11_tried 1 = .ok (.iconst 1, 1) := by decide +kernel
theorem dX11_tried_2 : decode cX11_tried 2 = .ok (.if_icmp .lt 17, 3) := by decide +kernel
theorem dX11_tried_5 : decode cX11_tried 5 = .ok (.iload_n 1, 1) := by decide +kernel
theorem dX11_tried_6 : decode cX11_tried 6 = .ok (.bipush 100, 2) := by decide +kernel
theorem dX11_tried_8 : decode cX11_tried 8 = .ok (.if_icmp .gt 11, 3) := by decide +kernel
theorem dX11_tried_11 : decode cX11_tried 11 = .ok (.aload_n 0, 1) := by decide +kernel
theorem dX11_tried_12 : decode cX11_tried 12 = .ok (.iload_n 2, 1) := by decide +kernel
theorem dX11_tried_13 : decode cX11_tried 13 = .ok (.invokevirtual 162, 3) := by decide +kernel
theorem dX11_tried_16 : decode cX11_tried 16 = .ok (.ifCond .ne 5, 3) := by decide +kernel
theorem dX11_tried_19 : decode cX11_tried 19 = .ok (.iconst (-1), 1) := by decide +kernel
theorem dX11_tried_20 : decode cX11_tried 20 = .ok (.ireturn, 1) := by decide +kernel
theorem dX11_tried_21 : decode cX11_tried 21 = .ok (.aload_n 0, 1) := by decide +kernel
theorem dX11_tried_22 : decode cX11_tried 22 = .ok (.getfield 72, 3) := by decide +kernel
theorem dX11_tried_25 : decode cX11_tried 25 = .ok (.aload_n 0, 1) := by decide +kernel
theorem dX11_tried_26 : decode cX11_tried 26 = .ok (.getfield 68, 3) := by decide +kernel
theorem dX11_tried_29 : decode cX11_tried 29 = .ok (.invokevirtual 165, 3) := by decide +kernel
theorem dX11_tried_32 : decode cX11_tried 32 = .ok (.aload_n 0, 1) := by decide +kernel
theorem dX11_tried_33 : decode cX11_tried 33 = .ok (.getfield 72, 3) := by decide +kernel
theorem dX11_tried_36 : decode cX11_tried 36 = .ok (.iload_n 1, 1) := by decide +kernel
theorem dX11_tried_37 : decode cX11_tried 37 = .ok (.aload_n 0, 1) := by decide +kernel
theorem dX11_tried_38 : decode cX11_tried 38 = .ok (.getfield 47, 3) := by decide +kernel
theorem dX11_tried_41 : decode cX11_tried 41 = .ok (.aload_n 0, 1) := by decide +kernel
theorem dX11_tried_42 : decode cX11_tried 42 = .ok (.getfield 81, 3) := by decide +kernel
theorem dX11_tried_45 : decode cX11_tried 45 = .ok (.aload_n 0, 1) := by decide +kernel
theorem dX11_tried_46 : decode cX11_tried 46 = .ok (.getfield 91, 3) := by decide +kernel
theorem dX11_tried_49 : decode cX11_tried 49 = .ok (.invokevirtual 158, 3) := by decide +kernel
theorem dX11_tried_52 : decode cX11_tried 52 = .ok (.iload_n 2, 1) := by decide +kernel
theorem dX11_tried_53 : decode cX11_tried 53 = .ok (.tableswitch 74 0 3 #[31, 47, 58, 66], 31) := by decide +kernel
theorem dX11_tried_84 : decode cX11_tried 84 = .ok (.aload_n 0, 1) := by decide +kernel
theorem dX11_tried_85 : decode cX11_tried 85 = .ok (.getfield 72, 3) := by decide +kernel
theorem dX11_tried_88 : decode cX11_tried 88 = .ok (.getfield 155, 3) := by decide +kernel
theorem dX11_tried_91 : decode cX11_tried 91 = .ok (.aload_n 0, 1) := by decide +kernel
theorem dX11_tried_92 : decode cX11_tried 92 = .ok (.getfield 68, 3) := by decide +kernel
theorem dX11_tried_95 : decode cX11_tried 95 = .ok (.getfield 155, 3) := by decide +kernel
theorem dX11_tried_98 : decode cX11_tried 98 = .ok (.isub, 1) := by decide +kernel
theorem dX11_tried_99 : decode cX11_tried 99 = .ok (.ireturn, 1) := by decide +kernel
theorem dX11_tried_100 : decode cX11_tried 100 = .ok (.aload_n 0, 1) := by decide +kernel
theorem dX11_tried_101 : decode cX11_tried 101 = .ok (.getfield 72, 3) := by decide +kernel
theorem dX11_tried_104 : decode cX11_tried 104 = .ok (.getfield 169, 3) := by decide +kernel
theorem dX11_tried_107 : decode cX11_tried 107 = .ok (.invokestatic 172, 3) := by decide +kernel
theorem dX11_tried_110 : decode cX11_tried 110 = .ok (.ireturn, 1) := by decide +kernel
theorem dX11_tried_111 : decode cX11_tried 111 = .ok (.aload_n 0, 1) := by decide +kernel
theorem dX11_tried_112 : decode cX11_tried 112 = .ok (.getfield 72, 3) := by decide +kernel
theorem dX11_tried_115 : decode cX11_tried 115 = .ok (.getfield 176, 3) := by decide +kernel
theorem dX11_tried_118 : decode cX11_tried 118 = .ok (.ireturn, 1) := by decide +kernel
theorem dX11_tried_119 : decode cX11_tried 119 = .ok (.aload_n 0, 1) := by decide +kernel
theorem dX11_tried_120 : decode cX11_tried 120 = .ok (.getfield 72, 3) := by decide +kernel
theorem dX11_tried_123 : decode cX11_tried 123 = .ok (.invokevirtual 179, 3) := by decide +kernel
theorem dX11_tried_126 : decode cX11_tried 126 = .ok (.ireturn, 1) := by decide +kernel
theorem dX11_tried_127 : decode cX11_tried 127 = .ok (.aload_n 0, 1) := by decide +kernel
theorem dX11_tried_128 : decode cX11_tried 128 = .ok (.getfield 72, 3) := by decide +kernel
theorem dX11_tried_131 : decode cX11_tried 131 = .ok (.iload_n 2, 1) := by decide +kernel
theorem dX11_tried_132 : decode cX11_tried 132 = .ok (.bipush 10, 2) := by decide +kernel
theorem dX11_tried_134 : decode cX11_tried 134 = .ok (.isub, 1) := by decide +kernel
theorem dX11_tried_135 : decode cX11_tried 135 = .ok (.invokevirtual 182, 3) := by decide +kernel
theorem dX11_tried_138 : decode cX11_tried 138 = .ok (.ireturn, 1) := by decide +kernel
theorem dX11_canBeTried_0 : decode cX11_canBeTried 0 = .ok (.iload_n 1, 1) := by decide +kernel
theorem dX11_canBeTried_1 : decode cX11_canBeTried 1 = .ok (.ifCond .lt 8, 3) := by decide +kernel
theorem dX11_canBeTried_4 : decode cX11_canBeTried 4 = .ok (.iload_n 1, 1) := by decide +kernel
theorem dX11_canBeTried_5 : decode cX11_canBeTried 5 = .ok (.iconst 3, 1) := by decide +kernel
theorem dX11_canBeTried_6 : decode cX11_canBeTried 6 = .ok (.if_icmp .le 23, 3) := by decide +kernel
theorem dX11_canBeTried_9 : decode cX11_canBeTried 9 = .ok (.iload_n 1, 1) := by decide +kernel
theorem dX11_canBeTried_10 : decode cX11_canBeTried 10 = .ok (.bipush 10, 2) := by decide +kernel
theorem dX11_canBeTried_12 : decode cX11_canBeTried 12 = .ok (.if_icmp .lt 21, 3) := by decide +kernel
theorem dX11_canBeTried_15 : decode cX11_canBeTried 15 = .ok (.aload_n 0, 1) := by decide +kernel
theorem dX11_canBeTried_16 : decode cX11_canBeTried 16 = .ok (.getfield 81, 3) := by decide +kernel
theorem dX11_canBeTried_19 : decode cX11_canBeTried 19 = .ok (.iload_n 1, 1) := by decide +kernel
theorem dX11_canBeTried_20 : decode cX11_canBeTried 20 = .ok (.bipush 10, 2) := by decide +kernel
theorem dX11_canBeTried_22 : decode cX11_canBeTried 22 = .ok (.isub, 1) := by decide +kernel
theorem dX11_canBeTried_23 : decode cX11_canBeTried 23 = .ok (.invokevirtual 106, 3) := by decide +kernel
theorem dX11_canBeTried_26 : decode cX11_canBeTried 26 = .ok (.ifCond .eq 7, 3) := by decide +kernel
theorem dX11_canBeTried_29 : decode cX11_canBeTried 29 = .ok (.iconst 1, 1) := by decide +kernel
theorem dX11_canBeTried_30 : decode cX11_canBeTried 30 = .ok (.goto 4, 3) := by decide +kernel
theorem dX11_canBeTried_33 : decode cX11_canBeTried 33 = .ok (.iconst 0, 1) := by decide +kernel
theorem dX11_canBeTried_34 : decode cX11_canBeTried 34 = .ok (.ireturn, 1) := by decide +kernel
theorem dX11_keep_0 : decode cX11_keep 0 = .ok (.aload_n 0, 1) := by decide +kernel
theorem dX11_keep_1 : decode cX11_keep 1 = .ok (.getfield 75, 3) := by decide +kernel
theorem dX11_keep_4 : decode cX11_keep 4 = .ok (.aload_n 0, 1) := by decide +kernel
theorem dX11_keep_5 : decode cX11_keep 5 = .ok (.getfield 68, 3) := by decide +kernel
theorem dX11_keep_8 : decode cX11_keep 8 = .ok (.invokevirtual 165, 3) := by decide +kernel
theorem dX11_keep_11 : decode cX11_keep 11 = .ok (.aload_n 0, 1) := by decide +kernel
theorem dX11_keep_12 : decode cX11_keep 12 = .ok (.iconst 1, 1) := by decide +kernel
theorem dX11_keep_13 : decode cX11_keep 13 = .ok (.putfield 98, 3) := by decide +kernel
theorem dX11_keep_16 : decode cX11_keep 16 = .ok (.aload_n 0, 1) := by decide +kernel
theorem dX11_keep_17 : decode cX11_keep 17 = .ok (.getfield 68, 3) := by decide +kernel
theorem dX11_keep_20 : decode cX11_keep 20 = .ok (.getfield 185, 3) := by decide +kernel
theorem dX11_keep_23 : decode cX11_keep 23 = .ok (.ireturn, 1) := by decide +kernel
theorem dX11_undo_0 : decode cX11_undo 0 = .ok (.aload_n 0, 1) := by decide +kernel
theorem dX11_undo_1 : decode cX11_undo 1 = .ok (.getfield 98, 3) := by decide +kernel
theorem dX11_undo_4 : decode cX11_undo 4 = .ok (.ifCond .ne 5, 3) := by decide +kernel
theorem dX11_undo_7 : decode cX11_undo 7 = .ok (.iconst 0, 1) := by decide +kernel
theorem dX11_undo_8 : decode cX11_undo 8 = .ok (.ireturn, 1) := by decide +kernel
theorem dX11_undo_9 : decode cX11_undo 9 = .ok (.aload_n 0, 1) := by decide +kernel
theorem dX11_undo_10 : decode cX11_undo 10 = .ok (.getfield 68, 3) := by decide +kernel
theorem dX11_undo_13 : decode cX11_undo 13 = .ok (.aload_n 0, 1) := by decide +kernel
theorem dX11_undo_14 : decode cX11_undo 14 = .ok (.getfield 75, 3) := by decide +kernel
theorem dX11_undo_17 : decode cX11_undo 17 = .ok (.invokevirtual 165, 3) := by decide +kernel
theorem dX11_undo_20 : decode cX11_undo 20 = .ok (.aload_n 0, 1) := by decide +kernel
theorem dX11_undo_21 : decode cX11_undo 21 = .ok (.getfield 68, 3) := by decide +kernel
theorem dX11_undo_24 : decode cX11_undo 24 = .ok (.aload_n 0, 1) := by decide +kernel
theorem dX11_undo_25 : decode cX11_undo 25 = .ok (.getfield 81, 3) := by decide +kernel
theorem dX11_undo_28 : decode cX11_undo 28 = .ok (.invokevirtual 188, 3) := by decide +kernel
theorem dX11_undo_31 : decode cX11_undo 31 = .ok (.iconst 1, 1) := by decide +kernel
theorem dX11_undo_32 : decode cX11_undo 32 = .ok (.ireturn, 1) := by decide +kernel
theorem dX11_check_0 : decode cX11_check 0 = .ok (.iload_n 1, 1) := by decide +kernel
theorem dX11_check_1 : decode cX11_check 1 = .ok (.ifCond .lt 20, 3) := by decide +kernel
theorem dX11_check_4 : decode cX11_check 4 = .ok (.iload_n 1, 1) := by decide +kernel
theorem dX11_check_5 : decode cX11_check 5 = .ok (.bipush 16, 2) := by decide +kernel
theorem dX11_check_7 : decode cX11_check 7 = .ok (.if_icmp .gt 14, 3) := by decide +kernel
theorem dX11_check_10 : decode cX11_check 10 = .ok (.aload_n 0, 1) := by decide +kernel
theorem dX11_check_11 : decode cX11_check 11 = .ok (.getfield 10, 3) := by decide +kernel
theorem dX11_check_14 : decode cX11_check 14 = .ok (.iload_n 1, 1) := by decide +kernel
theorem dX11_check_15 : decode cX11_check 15 = .ok (.invokevirtual 125, 3) := by decide +kernel
theorem dX11_check_18 : decode cX11_check 18 = .ok (.ifCond .ne 6, 3) := by decide +kernel
theorem dX11_check_21 : decode cX11_check 21 = .ok (.bipush (-2), 2) := by decide +kernel
theorem dX11_check_23 : decode cX11_check 23 = .ok (.ireturn, 1) := by decide +kernel
theorem dX11_check_24 : decode cX11_check 24 = .ok (.iconst (-1), 1) := by decide +kernel
theorem dX11_check_25 : decode cX11_check 25 = .ok (.istore_n 2, 1) := by decide +kernel
theorem dX11_check_26 : decode cX11_check 26 = .ok (.iload_n 1, 1) := by decide +kernel
theorem dX11_check_27 : decode cX11_check 27 = .ok (.iconst 1, 1) := by decide +kernel
theorem dX11_check_28 : decode cX11_check 28 = .ok (.isub, 1) := by decide +kernel
theorem dX11_check_29 : decode cX11_check 29 = .ok (.istore_n 3, 1) := by decide +kernel
theorem dX11_check_30 : decode cX11_check 30 = .ok (.iload_n 3, 1) := by decide +kernel
theorem dX11_check_31 : decode cX11_check 31 = .ok (.ifCond .lt 55, 3) := by decide +kernel
theorem dX11_check_34 : decode cX11_check 34 = .ok (.aload_n 0, 1) := by decide +kernel
theorem dX11_check_35 : decode cX11_check 35 = .ok (.getfield 81, 3) := by decide +kernel
theorem dX11_check_38 : decode cX11_check 38 = .ok (.iload_n 3, 1) := by decide +kernel
theorem dX11_check_39 : decode cX11_check 39 = .ok (.invokevirtual 106, 3) := by decide +kernel
theorem dX11_check_42 : decode cX11_check 42 = .ok (.ifCond .eq 18, 3) := by decide +kernel
theorem dX11_check_45 : decode cX11_check 45 = .ok (.aload_n 0, 1) := by decide +kernel
theorem dX11_check_46 : decode cX11_check 46 = .ok (.getfield 68, 3) := by decide +kernel
theorem dX11_check_49 : decode cX11_check 49 = .ok (.iload_n 3, 1) := by decide +kernel
theorem dX11_check_50 : decode cX11_check 50 = .ok (.invokevirtual 182, 3) := by decide +kernel
theorem dX11_check_53 : decode cX11_check 53 = .ok (.sipush 256, 3) := by decide +kernel
theorem dX11_check_56 : decode cX11_check 56 = .ok (.irem, 1) := by decide +kernel
theorem dX11_check_57 : decode cX11_check 57 = .ok (.goto 6, 3) := by decide +kernel
theorem dX11_check_60 : decode cX11_check 60 = .ok (.sipush 255, 3) := by decide +kernel
theorem dX11_check_63 : decode cX11_check 63 = .ok (.istore 4, 2) := by decide +kernel
theorem dX11_check_65 : decode cX11_check 65 = .ok (.aload_n 0, 1) := by decide +kernel
theorem dX11_check_66 : decode cX11_check 66 = .ok (.getfield 10, 3) := by decide +kernel
theorem dX11_check_69 : decode cX11_check 69 = .ok (.iload_n 3, 1) := by decide +kernel
theorem dX11_check_70 : decode cX11_check 70 = .ok (.invokevirtual 189, 3) := by decide +kernel
theorem dX11_check_73 : decode cX11_check 73 = .ok (.iload 4, 2) := by decide +kernel
theorem dX11_check_75 : decode cX11_check 75 = .ok (.if_icmp .eq 5, 3) := by decide +kernel
theorem dX11_check_78 : decode cX11_check 78 = .ok (.iload_n 3, 1) := by decide +kernel
theorem dX11_check_79 : decode cX11_check 79 = .ok (.istore_n 2, 1) := by decide +kernel
theorem dX11_check_80 : decode cX11_check 80 = .ok (.iinc 3 (-1), 3) := by decide +kernel
theorem dX11_check_83 : decode cX11_check 83 = .ok (.goto (-53), 3) := by decide +kernel
theorem dX11_check_86 : decode cX11_check 86 = .ok (.aload_n 0, 1) := by decide +kernel
theorem dX11_check_87 : decode cX11_check 87 = .ok (.getfield 10, 3) := by decide +kernel
theorem dX11_check_90 : decode cX11_check 90 = .ok (.invokevirtual 132, 3) := by decide +kernel
theorem dX11_check_93 : decode cX11_check 93 = .ok (.iload_n 2, 1) := by decide +kernel
theorem dX11_check_94 : decode cX11_check 94 = .ok (.ireturn, 1) := by decide +kernel
theorem dX11_count_0 : decode cX11_count 0 = .ok (.iload_n 1, 1) := by decide +kernel
theorem dX11_count_1 : decode cX11_count 1 = .ok (.tableswitch 165 0 11 #[63, 71, 79, 87, 98, 106, 114, 122, 130, 138, 146, 157], 63) := by decide +kernel
theorem dX11_count_64 : decode cX11_count 64 = .ok (.aload_n 0, 1) := by decide +kernel
theorem dX11_count_65 : decode cX11_count 65 = .ok (.getfield 68, 3) := by decide +kernel
theorem dX11_count_68 : decode cX11_count 68 = .ok (.getfield 185, 3) := by decide +kernel
theorem dX11_count_71 : decode cX11_count 71 = .ok (.ireturn, 1) := by decide +kernel
theorem dX11_count_72 : decode cX11_count 72 = .ok (.aload_n 0, 1) := by decide +kernel
theorem dX11_count_73 : decode cX11_count 73 = .ok (.getfield 81, 3) := by decide +kernel
theorem dX11_count_76 : decode cX11_count 76 = .ok (.getfield 192, 3) := by decide +kernel
theorem dX11_count_79 : decode cX11_count 79 = .ok (.ireturn, 1) := by decide +kernel
theorem dX11_count_80 : decode cX11_count 80 = .ok (.aload_n 0, 1) := by decide +kernel
theorem dX11_count_81 : decode cX11_count 81 = .ok (.getfield 81, 3) := by decide +kernel
theorem dX11_count_84 : decode cX11_count 84 = .ok (.getfield 195, 3) := by decide +kernel
theorem dX11_count_87 : decode cX11_count 87 = .ok (.ireturn, 1) := by decide +kernel
theorem dX11_count_88 : decode cX11_count 88 = .ok (.aload_n 0, 1) := by decide +kernel
theorem dX11_count_89 : decode cX11_count 89 = .ok (.getfield 68, 3) := by decide +kernel
theorem dX11_count_92 : decode cX11_count 92 = .ok (.getfield 169, 3) := by decide +kernel
theorem dX11_count_95 : decode cX11_count 95 = .ok (.invokestatic 172, 3) := by decide +kernel
theorem dX11_count_98 : decode cX11_count 98 = .ok (.ireturn, 1) := by decide +kernel
theorem dX11_count_99 : decode cX11_count 99 = .ok (.aload_n 0, 1) := by decide +kernel
theorem dX11_count_100 : decode cX11_count 100 = .ok (.getfield 68, 3) := by decide +kernel
theorem dX11_count_103 : decode cX11_count 103 = .ok (.getfield 176, 3) := by decide +kernel
theorem dX11_count_106 : decode cX11_count 106 = .ok (.ireturn, 1) := by decide +kernel
theorem dX11_count_107 : decode cX11_count 107 = .ok (.aload_n 0, 1) := by decide +kernel
theorem dX11_count_108 : decode cX11_count 108 = .ok (.getfield 68, 3) := by decide +kernel
theorem dX11_count_111 : decode cX11_count 111 = .ok (.getfield 155, 3) := by decide +kernel
theorem dX11_count_114 : decode cX11_count 114 = .ok (.ireturn, 1) := by decide +kernel
theorem dX11_count_115 : decode cX11_count 115 = .ok (.aload_n 0, 1) := by decide +kernel
theorem dX11_count_116 : decode cX11_count 116 = .ok (.getfield 91, 3) := by decide +kernel
theorem dX11_count_119 : decode cX11_count 119 = .ok (.getfield 198, 3) := by decide +kernel
theorem dX11_count_122 : decode cX11_count 122 = .ok (.ireturn, 1) := by decide +kernel
theorem dX11_count_123 : decode cX11_count 123 = .ok (.aload_n 0, 1) := by decide +kernel
theorem dX11_count_124 : decode cX11_count 124 = .ok (.getfield 10, 3) := by decide +kernel
theorem dX11_count_127 : decode cX11_count 127 = .ok (.invokevirtual 121, 3) := by decide +kernel
theorem dX11_count_130 : decode cX11_count 130 = .ok (.ireturn, 1) := by decide +kernel
theorem dX11_count_131 : decode cX11_count 131 = .ok (.aload_n 0, 1) := by decide +kernel
theorem dX11_count_132 : decode cX11_count 132 = .ok (.getfield 68, 3) := by decide +kernel
theorem dX11_count_135 : decode cX11_count 135 = .ok (.getfield 151, 3) := by decide +kernel
theorem dX11_count_138 : decode cX11_count 138 = .ok (.ireturn, 1) := by decide +kernel
theorem dX11_count_139 : decode cX11_count 139 = .ok (.aload_n 0, 1) := by decide +kernel
theorem dX11_count_140 : decode cX11_count 140 = .ok (.getfield 68, 3) := by decide +kernel
theorem dX11_count_143 : decode cX11_count 143 = .ok (.invokevirtual 179, 3) := by decide +kernel
theorem dX11_count_146 : decode cX11_count 146 = .ok (.ireturn, 1) := by decide +kernel
theorem dX11_count_147 : decode cX11_count 147 = .ok (.aload_n 0, 1) := by decide +kernel
theorem dX11_count_148 : decode cX11_count 148 = .ok (.getfield 68, 3) := by decide +kernel
theorem dX11_count_151 : decode cX11_count 151 = .ok (.getfield 176, 3) := by decide +kernel
theorem dX11_count_154 : decode cX11_count 154 = .ok (.invokestatic 201, 3) := by decide +kernel
theorem dX11_count_157 : decode cX11_count 157 = .ok (.ireturn, 1) := by decide +kernel
theorem dX11_count_158 : decode cX11_count 158 = .ok (.aload_n 0, 1) := by decide +kernel
theorem dX11_count_159 : decode cX11_count 159 = .ok (.getfield 47, 3) := by decide +kernel
theorem dX11_count_162 : decode cX11_count 162 = .ok (.invokevirtual 206, 3) := by decide +kernel
theorem dX11_count_165 : decode cX11_count 165 = .ok (.ireturn, 1) := by decide +kernel
theorem dX11_count_166 : decode cX11_count 166 = .ok (.iconst (-1), 1) := by decide +kernel
theorem dX11_count_167 : decode cX11_count 167 = .ok (.ireturn, 1) := by decide +kernel
theorem dX11_sees_0 : decode cX11_sees 0 = .ok (.aload_n 0, 1) := by decide +kernel
theorem dX11_sees_1 : decode cX11_sees 1 = .ok (.getfield 81, 3) := by decide +kernel
theorem dX11_sees_4 : decode cX11_sees 4 = .ok (.iload_n 1, 1) := by decide +kernel
theorem dX11_sees_5 : decode cX11_sees 5 = .ok (.invokevirtual 106, 3) := by decide +kernel
theorem dX11_sees_8 : decode cX11_sees 8 = .ok (.ifCond .eq 22, 3) := by decide +kernel
theorem dX11_sees_11 : decode cX11_sees 11 = .ok (.iload_n 2, 1) := by decide +kernel
theorem dX11_sees_12 : decode cX11_sees 12 = .ok (.invokestatic 102, 3) := by decide +kernel
theorem dX11_sees_15 : decode cX11_sees 15 = .ok (.ifCond .eq 15, 3) := by decide +kernel
theorem dX11_sees_18 : decode cX11_sees 18 = .ok (.aload_n 0, 1) := by decide +kernel
theorem dX11_sees_19 : decode cX11_sees 19 = .ok (.getfield 81, 3) := by decide +kernel
theorem dX11_sees_22 : decode cX11_sees 22 = .ok (.iload_n 1, 1) := by decide +kernel
theorem dX11_sees_23 : decode cX11_sees 23 = .ok (.iload_n 2, 1) := by decide +kernel
theorem dX11_sees_24 : decode cX11_sees 24 = .ok (.invokevirtual 209, 3) := by decide +kernel
theorem dX11_sees_27 : decode cX11_sees 27 = .ok (.goto 4, 3) := by decide +kernel
theorem dX11_sees_30 : decode cX11_sees 30 = .ok (.iconst (-1), 1) := by decide +kernel
theorem dX11_sees_31 : decode cX11_sees 31 = .ok (.ireturn, 1) := by decide +kernel
theorem dX11_houseIs_0 : decode cX11_houseIs 0 = .ok (.aload_n 0, 1) := by decide +kernel
theorem dX11_houseIs_1 : decode cX11_houseIs 1 = .ok (.getfield 81, 3) := by decide +kernel
theorem dX11_houseIs_4 : decode cX11_houseIs 4 = .ok (.iload_n 1, 1) := by decide +kernel
theorem dX11_houseIs_5 : decode cX11_houseIs 5 = .ok (.invokevirtual 106, 3) := by decide +kernel
theorem dX11_houseIs_8 : decode cX11_houseIs 8 = .ok (.ifCond .ne 5, 3) := by decide +kernel
theorem dX11_houseIs_11 : decode cX11_houseIs 11 = .ok (.iconst (-1), 1) := by decide +kernel
theorem dX11_houseIs_12 : decode cX11_houseIs 12 = .ok (.ireturn, 1) := by decide +kernel
theorem dX11_houseIs_13 : decode cX11_houseIs 13 = .ok (.iload_n 2, 1) := by decide +kernel
theorem dX11_houseIs_14 : decode cX11_houseIs 14 = .ok (.tableswitch 92 0 4 #[34, 44, 53, 65, 83], 34) := by decide +kernel
theorem dX11_houseIs_48 : decode cX11_houseIs 48 = .ok (.aload_n 0, 1) := by decide +kernel
theorem dX11_houseIs_49 : decode cX11_houseIs 49 = .ok (.getfield 81, 3) := by decide +kernel
theorem dX11_houseIs_52 : decode cX11_houseIs 52 = .ok (.getfield 213, 3) := by decide +kernel
theorem dX11_houseIs_55 : decode cX11_houseIs 55 = .ok (.iload_n 1, 1) := by decide +kernel
theorem dX11_houseIs_56 : decode cX11_houseIs 56 = .ok (.iaload, 1) := by decide +kernel
theorem dX11_houseIs_57 : decode cX11_houseIs 57 = .ok (.ireturn, 1) := by decide +kernel
theorem dX11_houseIs_58 : decode cX11_houseIs 58 = .ok (.aload_n 0, 1) := by decide +kernel
theorem dX11_houseIs_59 : decode cX11_houseIs 59 = .ok (.getfield 68, 3) := by decide +kernel
theorem dX11_houseIs_62 : decode cX11_houseIs 62 = .ok (.iload_n 1, 1) := by decide +kernel
theorem dX11_houseIs_63 : decode cX11_houseIs 63 = .ok (.invokevirtual 182, 3) := by decide +kernel
theorem dX11_houseIs_66 : decode cX11_houseIs 66 = .ok (.ireturn, 1) := by decide +kernel
theorem dX11_houseIs_67 : decode cX11_houseIs 67 = .ok (.aload_n 0, 1) := by decide +kernel
theorem dX11_houseIs_68 : decode cX11_houseIs 68 = .ok (.getfield 47, 3) := by decide +kernel
theorem dX11_houseIs_71 : decode cX11_houseIs 71 = .ok (.iload_n 1, 1) := by decide +kernel
theorem dX11_houseIs_72 : decode cX11_houseIs 72 = .ok (.invokevirtual 217, 3) := by decide +kernel
theorem dX11_houseIs_75 : decode cX11_houseIs 75 = .ok (.invokestatic 201, 3) := by decide +kernel
theorem dX11_houseIs_78 : decode cX11_houseIs 78 = .ok (.ireturn, 1) := by decide +kernel
theorem dX11_houseIs_79 : decode cX11_houseIs 79 = .ok (.sipush 4095, 3) := by decide +kernel
theorem dX11_houseIs_82 : decode cX11_houseIs 82 = .ok (.aload_n 0, 1) := by decide +kernel
theorem dX11_houseIs_83 : decode cX11_houseIs 83 = .ok (.getfield 47, 3) := by decide +kernel
theorem dX11_houseIs_86 : decode cX11_houseIs 86 = .ok (.iload_n 1, 1) := by decide +kernel
theorem dX11_houseIs_87 : decode cX11_houseIs 87 = .ok (.invokevirtual 217, 3) := by decide +kernel
theorem dX11_houseIs_90 : decode cX11_houseIs 90 = .ok (.iconst (-1), 1) := by decide +kernel
theorem dX11_houseIs_91 : decode cX11_houseIs 91 = .ok (.ixor, 1) := by decide +kernel
theorem dX11_houseIs_92 : decode cX11_houseIs 92 = .ok (.iand, 1) := by decide +kernel
theorem dX11_houseIs_93 : decode cX11_houseIs 93 = .ok (.invokestatic 220, 3) := by decide +kernel
theorem dX11_houseIs_96 : decode cX11_houseIs 96 = .ok (.ireturn, 1) := by decide +kernel
theorem dX11_houseIs_97 : decode cX11_houseIs 97 = .ok (.aload_n 0, 1) := by decide +kernel
theorem dX11_houseIs_98 : decode cX11_houseIs 98 = .ok (.getfield 81, 3) := by decide +kernel
theorem dX11_houseIs_101 : decode cX11_houseIs 101 = .ok (.iload_n 1, 1) := by decide +kernel
theorem dX11_houseIs_102 : decode cX11_houseIs 102 = .ok (.invokevirtual 223, 3) := by decide +kernel
theorem dX11_houseIs_105 : decode cX11_houseIs 105 = .ok (.ireturn, 1) := by decide +kernel
theorem dX11_houseIs_106 : decode cX11_houseIs 106 = .ok (.iconst (-1), 1) := by decide +kernel
theorem dX11_houseIs_107 : decode cX11_houseIs 107 = .ok (.ireturn, 1) := by decide +kernel
theorem dX11_rotaIs_0 : decode cX11_rotaIs 0 = .ok (.iload_n 1, 1) := by decide +kernel
theorem dX11_rotaIs_1 : decode cX11_rotaIs 1 = .ok (.invokestatic 102, 3) := by decide +kernel
theorem dX11_rotaIs_4 : decode cX11_rotaIs 4 = .ok (.ifCond .eq 15, 3) := by decide +kernel
theorem dX11_rotaIs_7 : decode cX11_rotaIs 7 = .ok (.aload_n 0, 1) := by decide +kernel
theorem dX11_rotaIs_8 : decode cX11_rotaIs 8 = .ok (.getfield 47, 3) := by decide +kernel
theorem dX11_rotaIs_11 : decode cX11_rotaIs 11 = .ok (.iload_n 1, 1) := by decide +kernel
theorem dX11_rotaIs_12 : decode cX11_rotaIs 12 = .ok (.invokevirtual 226, 3) := by decide +kernel
theorem dX11_rotaIs_15 : decode cX11_rotaIs 15 = .ok (.invokestatic 172, 3) := by decide +kernel
theorem dX11_rotaIs_18 : decode cX11_rotaIs 18 = .ok (.ireturn, 1) := by decide +kernel
theorem dX11_rotaIs_19 : decode cX11_rotaIs 19 = .ok (.iload_n 1, 1) := by decide +kernel
theorem dX11_rotaIs_20 : decode cX11_rotaIs 20 = .ok (.tableswitch 64 100 102 #[28, 36, 52], 28) := by decide +kernel
theorem dX11_rotaIs_48 : decode cX11_rotaIs 48 = .ok (.aload_n 0, 1) := by decide +kernel
theorem dX11_rotaIs_49 : decode cX11_rotaIs 49 = .ok (.getfield 47, 3) := by decide +kernel
theorem dX11_rotaIs_52 : decode cX11_rotaIs 52 = .ok (.invokevirtual 229, 3) := by decide +kernel
theorem dX11_rotaIs_55 : decode cX11_rotaIs 55 = .ok (.ireturn, 1) := by decide +kernel
theorem dX11_rotaIs_56 : decode cX11_rotaIs 56 = .ok (.aload_n 0, 1) := by decide +kernel
theorem dX11_rotaIs_57 : decode cX11_rotaIs 57 = .ok (.getfield 47, 3) := by decide +kernel
theorem dX11_rotaIs_60 : decode cX11_rotaIs 60 = .ok (.invokevirtual 229, 3) := by decide +kernel
theorem dX11_rotaIs_63 : decode cX11_rotaIs 63 = .ok (.aload_n 0, 1) := by decide +kernel
theorem dX11_rotaIs_64 : decode cX11_rotaIs 64 = .ok (.getfield 47, 3) := by decide +kernel
theorem dX11_rotaIs_67 : decode cX11_rotaIs 67 = .ok (.invokevirtual 232, 3) := by decide +kernel
theorem dX11_rotaIs_70 : decode cX11_rotaIs 70 = .ok (.iadd, 1) := by decide +kernel
theorem dX11_rotaIs_71 : decode cX11_rotaIs 71 = .ok (.ireturn, 1) := by decide +kernel
theorem dX11_rotaIs_72 : decode cX11_rotaIs 72 = .ok (.aload_n 0, 1) := by decide +kernel
theorem dX11_rotaIs_73 : decode cX11_rotaIs 73 = .ok (.getfield 47, 3) := by decide +kernel
theorem dX11_rotaIs_76 : decode cX11_rotaIs 76 = .ok (.aload_n 0, 1) := by decide +kernel
theorem dX11_rotaIs_77 : decode cX11_rotaIs 77 = .ok (.getfield 81, 3) := by decide +kernel
theorem dX11_rotaIs_80 : decode cX11_rotaIs 80 = .ok (.invokevirtual 235, 3) := by decide +kernel
theorem dX11_rotaIs_83 : decode cX11_rotaIs 83 = .ok (.ireturn, 1) := by decide +kernel
theorem dX11_rotaIs_84 : decode cX11_rotaIs 84 = .ok (.iconst (-1), 1) := by decide +kernel
theorem dX11_rotaIs_85 : decode cX11_rotaIs 85 = .ok (.ireturn, 1) := by decide +kernel
theorem dX11_next_0 : decode cX11_next 0 = .ok (.aload_n 0, 1) := by decide +kernel
theorem dX11_next_1 : decode cX11_next 1 = .ok (.getfield 81, 3) := by decide +kernel
theorem dX11_next_4 : decode cX11_next 4 = .ok (.iload_n 1, 1) := by decide +kernel
theorem dX11_next_5 : decode cX11_next 5 = .ok (.invokevirtual 106, 3) := by decide +kernel
theorem dX11_next_8 : decode cX11_next 8 = .ok (.ifCond .eq 21, 3) := by decide +kernel
theorem dX11_next_11 : decode cX11_next 11 = .ok (.aload_n 0, 1) := by decide +kernel
theorem dX11_next_12 : decode cX11_next 12 = .ok (.getfield 81, 3) := by decide +kernel
theorem dX11_next_15 : decode cX11_next 15 = .ok (.iload_n 2, 1) := by decide +kernel
theorem dX11_next_16 : decode cX11_next 16 = .ok (.invokevirtual 239, 3) := by decide +kernel
theorem dX11_next_19 : decode cX11_next 19 = .ok (.ifCond .eq 10, 3) := by decide +kernel
theorem dX11_next_22 : decode cX11_next 22 = .ok (.iload_n 3, 1) := by decide +kernel
theorem dX11_next_23 : decode cX11_next 23 = .ok (.invokestatic 102, 3) := by decide +kernel
theorem dX11_next_26 : decode cX11_next 26 = .ok (.ifCond .ne 5, 3) := by decide +kernel
theorem dX11_next_29 : decode cX11_next 29 = .ok (.iconst (-1), 1) := by decide +kernel
theorem dX11_next_30 : decode cX11_next 30 = .ok (.ireturn, 1) := by decide +kernel
theorem dX11_next_31 : decode cX11_next 31 = .ok (.aload_n 0, 1) := by decide +kernel
theorem dX11_next_32 : decode cX11_next 32 = .ok (.getfield 47, 3) := by decide +kernel
theorem dX11_next_35 : decode cX11_next 35 = .ok (.aload_n 0, 1) := by decide +kernel
theorem dX11_next_36 : decode cX11_next 36 = .ok (.getfield 81, 3) := by decide +kernel
theorem dX11_next_39 : decode cX11_next 39 = .ok (.iload_n 1, 1) := by decide +kernel
theorem dX11_next_40 : decode cX11_next 40 = .ok (.iload_n 2, 1) := by decide +kernel
theorem dX11_next_41 : decode cX11_next 41 = .ok (.iload_n 3, 1) := by decide +kernel
theorem dX11_next_42 : decode cX11_next 42 = .ok (.invokevirtual 242, 3) := by decide +kernel
theorem dX11_next_45 : decode cX11_next 45 = .ok (.ireturn, 1) := by decide +kernel
theorem dX11_light_0 : decode cX11_light 0 = .ok (.aload_n 0, 1) := by decide +kernel
theorem dX11_light_1 : decode cX11_light 1 = .ok (.getfield 81, 3) := by decide +kernel
theorem dX11_light_4 : decode cX11_light 4 = .ok (.iload_n 1, 1) := by decide +kernel
theorem dX11_light_5 : decode cX11_light 5 = .ok (.invokevirtual 106, 3) := by decide +kernel
theorem dX11_light_8 : decode cX11_light 8 = .ok (.ifCond .eq 12, 3) := by decide +kernel
theorem dX11_light_11 : decode cX11_light 11 = .ok (.iload_n 2, 1) := by decide +kernel
theorem dX11_light_12 : decode cX11_light 12 = .ok (.ifCond .lt 8, 3) := by decide +kernel
theorem dX11_light_15 : decode cX11_light 15 = .ok (.iload_n 2, 1) := by decide +kernel
theorem dX11_light_16 : decode cX11_light 16 = .ok (.iconst 1, 1) := by decide +kernel
theorem dX11_light_17 : decode cX11_light 17 = .ok (.if_icmp .le 5, 3) := by decide +kernel
theorem dX11_light_20 : decode cX11_light 20 = .ok (.iconst (-1), 1) := by decide +kernel
theorem dX11_light_21 : decode cX11_light 21 = .ok (.ireturn, 1) := by decide +kernel
theorem dX11_light_22 : decode cX11_light 22 = .ok (.aload_n 0, 1) := by decide +kernel
theorem dX11_light_23 : decode cX11_light 23 = .ok (.getfield 81, 3) := by decide +kernel
theorem dX11_light_26 : decode cX11_light 26 = .ok (.iload_n 1, 1) := by decide +kernel
theorem dX11_light_27 : decode cX11_light 27 = .ok (.invokevirtual 246, 3) := by decide +kernel
theorem dX11_light_30 : decode cX11_light 30 = .ok (.istore_n 3, 1) := by decide +kernel
theorem dX11_light_31 : decode cX11_light 31 = .ok (.iload_n 2, 1) := by decide +kernel
theorem dX11_light_32 : decode cX11_light 32 = .ok (.ifCond .ne 10, 3) := by decide +kernel
theorem dX11_light_35 : decode cX11_light 35 = .ok (.iload_n 3, 1) := by decide +kernel
theorem dX11_light_36 : decode cX11_light 36 = .ok (.invokestatic 201, 3) := by decide +kernel
theorem dX11_light_39 : decode cX11_light 39 = .ok (.goto 7, 3) := by decide +kernel
theorem dX11_light_42 : decode cX11_light 42 = .ok (.iload_n 3, 1) := by decide +kernel
theorem dX11_light_43 : decode cX11_light 43 = .ok (.invokestatic 220, 3) := by decide +kernel
theorem dX11_light_46 : decode cX11_light 46 = .ok (.ireturn, 1) := by decide +kernel
theorem dX11_seers_0 : decode cX11_seers 0 = .ok (.aload_n 0, 1) := by decide +kernel
theorem dX11_seers_1 : decode cX11_seers 1 = .ok (.getfield 81, 3) := by decide +kernel
theorem dX11_seers_4 : decode cX11_seers 4 = .ok (.iload_n 1, 1) := by decide +kernel
theorem dX11_seers_5 : decode cX11_seers 5 = .ok (.invokevirtual 239, 3) := by decide +kernel
theorem dX11_seers_8 : decode cX11_seers 8 = .ok (.ifCond .eq 14, 3) := by decide +kernel
theorem dX11_seers_11 : decode cX11_seers 11 = .ok (.aload_n 0, 1) := by decide +kernel
theorem dX11_seers_12 : decode cX11_seers 12 = .ok (.getfield 81, 3) := by decide +kernel
theorem dX11_seers_15 : decode cX11_seers 15 = .ok (.iload_n 1, 1) := by decide +kernel
theorem dX11_seers_16 : decode cX11_seers 16 = .ok (.invokevirtual 249, 3) := by decide +kernel
theorem dX11_seers_19 : decode cX11_seers 19 = .ok (.goto 4, 3) := by decide +kernel
theorem dX11_seers_22 : decode cX11_seers 22 = .ok (.iconst (-1), 1) := by decide +kernel
theorem dX11_seers_23 : decode cX11_seers 23 = .ok (.ireturn, 1) := by decide +kernel
theorem dX11_clearest_0 : decode cX11_clearest 0 = .ok (.iload_n 1, 1) := by decide +kernel
theorem dX11_clearest_1 : decode cX11_clearest 1 = .ok (.ifCond .lt 8, 3) := by decide +kernel
theorem dX11_clearest_4 : decode cX11_clearest 4 = .ok (.iload_n 1, 1) := by decide +kernel
theorem dX11_clearest_5 : decode cX11_clearest 5 = .ok (.iconst 1, 1) := by decide +kernel
theorem dX11_clearest_6 : decode cX11_clearest 6 = .ok (.if_icmp .le 5, 3) := by decide +kernel
theorem dX11_clearest_9 : decode cX11_clearest 9 = .ok (.iconst (-1), 1) := by decide +kernel
theorem dX11_clearest_10 : decode cX11_clearest 10 = .ok (.ireturn, 1) := by decide +kernel
theorem dX11_clearest_11 : decode cX11_clearest 11 = .ok (.aload_n 0, 1) := by decide +kernel
theorem dX11_clearest_12 : decode cX11_clearest 12 = .ok (.getfield 81, 3) := by decide +kernel
theorem dX11_clearest_15 : decode cX11_clearest 15 = .ok (.invokevirtual 252, 3) := by decide +kernel
theorem dX11_clearest_18 : decode cX11_clearest 18 = .ok (.istore_n 2, 1) := by decide +kernel
theorem dX11_clearest_19 : decode cX11_clearest 19 = .ok (.iload_n 1, 1) := by decide +kernel
theorem dX11_clearest_20 : decode cX11_clearest 20 = .ok (.ifCond .ne 7, 3) := by decide +kernel
theorem dX11_clearest_23 : decode cX11_clearest 23 = .ok (.iload_n 2, 1) := by decide +kernel
theorem dX11_clearest_24 : decode cX11_clearest 24 = .ok (.goto 11, 3) := by decide +kernel
theorem dX11_clearest_27 : decode cX11_clearest 27 = .ok (.aload_n 0, 1) := by decide +kernel
theorem dX11_clearest_28 : decode cX11_clearest 28 = .ok (.getfield 81, 3) := by decide +kernel
theorem dX11_clearest_31 : decode cX11_clearest 31 = .ok (.iload_n 2, 1) := by decide +kernel
theorem dX11_clearest_32 : decode cX11_clearest 32 = .ok (.invokevirtual 255, 3) := by decide +kernel
theorem dX11_clearest_35 : decode cX11_clearest 35 = .ok (.ireturn, 1) := by decide +kernel
theorem dX11_whoHad_0 : decode cX11_whoHad 0 = .ok (.iload_n 1, 1) := by decide +kernel
theorem dX11_whoHad_1 : decode cX11_whoHad 1 = .ok (.invokestatic 102, 3) := by decide +kernel
theorem dX11_whoHad_4 : decode cX11_whoHad 4 = .ok (.ifCond .eq 13, 3) := by decide +kernel
theorem dX11_whoHad_7 : decode cX11_whoHad 7 = .ok (.iload_n 2, 1) := by decide +kernel
theorem dX11_whoHad_8 : decode cX11_whoHad 8 = .ok (.ifCond .lt 9, 3) := by decide +kernel
theorem dX11_whoHad_11 : decode cX11_whoHad 11 = .ok (.iload_n 2, 1) := by decide +kernel
theorem dX11_whoHad_12 : decode cX11_whoHad 12 = .ok (.ldc 150, 2) := by decide +kernel
theorem dX11_whoHad_14 : decode cX11_whoHad 14 = .ok (.if_icmp .le 5, 3) := by decide +kernel
theorem dX11_whoHad_17 : decode cX11_whoHad 17 = .ok (.iconst (-1), 1) := by decide +kernel
theorem dX11_whoHad_18 : decode cX11_whoHad 18 = .ok (.ireturn, 1) := by decide +kernel
theorem dX11_whoHad_19 : decode cX11_whoHad 19 = .ok (.aload_n 0, 1) := by decide +kernel
theorem dX11_whoHad_20 : decode cX11_whoHad 20 = .ok (.getfield 81, 3) := by decide +kernel
theorem dX11_whoHad_23 : decode cX11_whoHad 23 = .ok (.iload_n 2, 1) := by decide +kernel
theorem dX11_whoHad_24 : decode cX11_whoHad 24 = .ok (.iload_n 1, 1) := by decide +kernel
theorem dX11_whoHad_25 : decode cX11_whoHad 25 = .ok (.invokevirtual 258, 3) := by decide +kernel
theorem dX11_whoHad_28 : decode cX11_whoHad 28 = .ok (.ireturn, 1) := by decide +kernel
theorem dX11_second_0 : decode cX11_second 0 = .ok (.iload_n 1, 1) := by decide +kernel
theorem dX11_second_1 : decode cX11_second 1 = .ok (.ifCond .lt 8, 3) := by decide +kernel
theorem dX11_second_4 : decode cX11_second 4 = .ok (.iload_n 1, 1) := by decide +kernel
theorem dX11_second_5 : decode cX11_second 5 = .ok (.iconst 1, 1) := by decide +kernel
theorem dX11_second_6 : decode cX11_second 6 = .ok (.if_icmp .le 5, 3) := by decide +kernel
theorem dX11_second_9 : decode cX11_second 9 = .ok (.iconst (-1), 1) := by decide +kernel
theorem dX11_second_10 : decode cX11_second 10 = .ok (.ireturn, 1) := by decide +kernel
theorem dX11_second_11 : decode cX11_second 11 = .ok (.aload_n 0, 1) := by decide +kernel
theorem dX11_second_12 : decode cX11_second 12 = .ok (.getfield 81, 3) := by decide +kernel
theorem dX11_second_15 : decode cX11_second 15 = .ok (.invokevirtual 261, 3) := by decide +kernel
theorem dX11_second_18 : decode cX11_second 18 = .ok (.istore_n 2, 1) := by decide +kernel
theorem dX11_second_19 : decode cX11_second 19 = .ok (.iload_n 1, 1) := by decide +kernel
theorem dX11_second_20 : decode cX11_second 20 = .ok (.ifCond .ne 10, 3) := by decide +kernel
theorem dX11_second_23 : decode cX11_second 23 = .ok (.iload_n 2, 1) := by decide +kernel
theorem dX11_second_24 : decode cX11_second 24 = .ok (.invokestatic 201, 3) := by decide +kernel
theorem dX11_second_27 : decode cX11_second 27 = .ok (.goto 4, 3) := by decide +kernel
theorem dX11_second_30 : decode cX11_second 30 = .ok (.iload_n 2, 1) := by decide +kernel
theorem dX11_second_31 : decode cX11_second 31 = .ok (.ireturn, 1) := by decide +kernel
theorem dX11_ifSwapped_0 : decode cX11_ifSwapped 0 = .ok (.iload_n 1, 1) := by decide +kernel
theorem dX11_ifSwapped_1 : decode cX11_ifSwapped 1 = .ok (.invokestatic 102, 3) := by decide +kernel
theorem dX11_ifSwapped_4 : decode cX11_ifSwapped 4 = .ok (.ifCond .eq 22, 3) := by decide +kernel
theorem dX11_ifSwapped_7 : decode cX11_ifSwapped 7 = .ok (.iload_n 2, 1) := by decide +kernel
theorem dX11_ifSwapped_8 : decode cX11_ifSwapped 8 = .ok (.invokestatic 102, 3) := by decide +kernel
theorem dX11_ifSwapped_11 : decode cX11_ifSwapped 11 = .ok (.ifCond .eq 15, 3) := by decide +kernel
theorem dX11_ifSwapped_14 : decode cX11_ifSwapped 14 = .ok (.aload_n 0, 1) := by decide +kernel
theorem dX11_ifSwapped_15 : decode cX11_ifSwapped 15 = .ok (.getfield 47, 3) := by decide +kernel
theorem dX11_ifSwapped_18 : decode cX11_ifSwapped 18 = .ok (.iload_n 1, 1) := by decide +kernel
theorem dX11_ifSwapped_19 : decode cX11_ifSwapped 19 = .ok (.iload_n 2, 1) := by decide +kernel
theorem dX11_ifSwapped_20 : decode cX11_ifSwapped 20 = .ok (.invokevirtual 264, 3) := by decide +kernel
theorem dX11_ifSwapped_23 : decode cX11_ifSwapped 23 = .ok (.goto 4, 3) := by decide +kernel
theorem dX11_ifSwapped_26 : decode cX11_ifSwapped 26 = .ok (.iconst (-1), 1) := by decide +kernel
theorem dX11_ifSwapped_27 : decode cX11_ifSwapped 27 = .ok (.ireturn, 1) := by decide +kernel
theorem dX11_spread_0 : decode cX11_spread 0 = .ok (.aload_n 0, 1) := by decide +kernel
theorem dX11_spread_1 : decode cX11_spread 1 = .ok (.getfield 47, 3) := by decide +kernel
theorem dX11_spread_4 : decode cX11_spread 4 = .ok (.aload_n 0, 1) := by decide +kernel
theorem dX11_spread_5 : decode cX11_spread 5 = .ok (.getfield 81, 3) := by decide +kernel
theorem dX11_spread_8 : decode cX11_spread 8 = .ok (.invokevirtual 267, 3) := by decide +kernel
theorem dX11_spread_11 : decode cX11_spread 11 = .ok (.ireturn, 1) := by decide +kernel
theorem dX11_readers_0 : decode cX11_readers 0 = .ok (.iload_n 1, 1) := by decide +kernel
theorem dX11_readers_1 : decode cX11_readers 1 = .ok (.invokestatic 102, 3) := by decide +kernel
theorem dX11_readers_4 : decode cX11_readers 4 = .ok (.ifCond .eq 29, 3) := by decide +kernel
theorem dX11_readers_7 : decode cX11_readers 7 = .ok (.iload_n 2, 1) := by decide +kernel
theorem dX11_readers_8 : decode cX11_readers 8 = .ok (.ifCond .lt 25, 3) := by decide +kernel
theorem dX11_readers_11 : decode cX11_readers 11 = .ok (.iload_n 2, 1) := by decide +kernel
theorem dX11_readers_12 : decode cX11_readers 12 = .ok (.bipush 12, 2) := by decide +kernel
theorem dX11_readers_14 : decode cX11_readers 14 = .ok (.if_icmp .gt 19, 3) := by decide +kernel
theorem dX11_readers_17 : decode cX11_readers 17 = .ok (.aload_n 0, 1) := by decide +kernel
theorem dX11_readers_18 : decode cX11_readers 18 = .ok (.getfield 47, 3) := by decide +kernel
theorem dX11_readers_21 : decode cX11_readers 21 = .ok (.aload_n 0, 1) := by decide +kernel
theorem dX11_readers_22 : decode cX11_readers 22 = .ok (.getfield 81, 3) := by decide +kernel
theorem dX11_readers_25 : decode cX11_readers 25 = .ok (.iload_n 1, 1) := by decide +kernel
theorem dX11_readers_26 : decode cX11_readers 26 = .ok (.iload_n 2, 1) := by decide +kernel
theorem dX11_readers_27 : decode cX11_readers 27 = .ok (.invokevirtual 270, 3) := by decide +kernel
theorem dX11_readers_30 : decode cX11_readers 30 = .ok (.goto 4, 3) := by decide +kernel
theorem dX11_readers_33 : decode cX11_readers 33 = .ok (.iconst (-1), 1) := by decide +kernel
theorem dX11_readers_34 : decode cX11_readers 34 = .ok (.ireturn, 1) := by decide +kernel
theorem dX11_bestBreath_0 : decode cX11_bestBreath 0 = .ok (.aload_n 0, 1) := by decide +kernel
theorem dX11_bestBreath_1 : decode cX11_bestBreath 1 = .ok (.getfield 81, 3) := by decide +kernel
theorem dX11_bestBreath_4 : decode cX11_bestBreath 4 = .ok (.iload_n 1, 1) := by decide +kernel
theorem dX11_bestBreath_5 : decode cX11_bestBreath 5 = .ok (.invokevirtual 106, 3) := by decide +kernel
theorem dX11_bestBreath_8 : decode cX11_bestBreath 8 = .ok (.ifCond .eq 12, 3) := by decide +kernel
theorem dX11_bestBreath_11 : decode cX11_bestBreath 11 = .ok (.iload_n 2, 1) := by decide +kernel
theorem dX11_bestBreath_12 : decode cX11_bestBreath 12 = .ok (.ifCond .lt 8, 3) := by decide +kernel
theorem dX11_bestBreath_15 : decode cX11_bestBreath 15 = .ok (.iload_n 2, 1) := by decide +kernel
theorem dX11_bestBreath_16 : decode cX11_bestBreath 16 = .ok (.iconst 1, 1) := by decide +kernel
theorem dX11_bestBreath_17 : decode cX11_bestBreath 17 = .ok (.if_icmp .le 5, 3) := by decide +kernel
theorem dX11_bestBreath_20 : decode cX11_bestBreath 20 = .ok (.iconst (-1), 1) := by decide +kernel
theorem dX11_bestBreath_21 : decode cX11_bestBreath 21 = .ok (.ireturn, 1) := by decide +kernel
theorem dX11_bestBreath_22 : decode cX11_bestBreath 22 = .ok (.aload_n 0, 1) := by decide +kernel
theorem dX11_bestBreath_23 : decode cX11_bestBreath 23 = .ok (.getfield 47, 3) := by decide +kernel
theorem dX11_bestBreath_26 : decode cX11_bestBreath 26 = .ok (.aload_n 0, 1) := by decide +kernel
theorem dX11_bestBreath_27 : decode cX11_bestBreath 27 = .ok (.getfield 81, 3) := by decide +kernel
theorem dX11_bestBreath_30 : decode cX11_bestBreath 30 = .ok (.iload_n 1, 1) := by decide +kernel
theorem dX11_bestBreath_31 : decode cX11_bestBreath 31 = .ok (.invokevirtual 274, 3) := by decide +kernel
theorem dX11_bestBreath_34 : decode cX11_bestBreath 34 = .ok (.istore_n 3, 1) := by decide +kernel
theorem dX11_bestBreath_35 : decode cX11_bestBreath 35 = .ok (.iload_n 2, 1) := by decide +kernel
theorem dX11_bestBreath_36 : decode cX11_bestBreath 36 = .ok (.ifCond .ne 5, 3) := by decide +kernel
theorem dX11_bestBreath_39 : decode cX11_bestBreath 39 = .ok (.iload_n 3, 1) := by decide +kernel
theorem dX11_bestBreath_40 : decode cX11_bestBreath 40 = .ok (.ireturn, 1) := by decide +kernel
theorem dX11_bestBreath_41 : decode cX11_bestBreath 41 = .ok (.iload_n 3, 1) := by decide +kernel
theorem dX11_bestBreath_42 : decode cX11_bestBreath 42 = .ok (.invokestatic 102, 3) := by decide +kernel
theorem dX11_bestBreath_45 : decode cX11_bestBreath 45 = .ok (.ifCond .eq 19, 3) := by decide +kernel
theorem dX11_bestBreath_48 : decode cX11_bestBreath 48 = .ok (.aload_n 0, 1) := by decide +kernel
theorem dX11_bestBreath_49 : decode cX11_bestBreath 49 = .ok (.getfield 47, 3) := by decide +kernel
theorem dX11_bestBreath_52 : decode cX11_bestBreath 52 = .ok (.aload_n 0, 1) := by decide +kernel
theorem dX11_bestBreath_53 : decode cX11_bestBreath 53 = .ok (.getfield 81, 3) := by decide +kernel
theorem dX11_bestBreath_56 : decode cX11_bestBreath 56 = .ok (.iload_n 3, 1) := by decide +kernel
theorem dX11_bestBreath_57 : decode cX11_bestBreath 57 = .ok (.iload_n 1, 1) := by decide +kernel
theorem dX11_bestBreath_58 : decode cX11_bestBreath 58 = .ok (.invokevirtual 278, 3) := by decide +kernel
theorem dX11_bestBreath_61 : decode cX11_bestBreath 61 = .ok (.goto 4, 3) := by decide +kernel
theorem dX11_bestBreath_64 : decode cX11_bestBreath 64 = .ok (.iconst 0, 1) := by decide +kernel
theorem dX11_bestBreath_65 : decode cX11_bestBreath 65 = .ok (.ireturn, 1) := by decide +kernel
theorem dX11_shortest_0 : decode cX11_shortest 0 = .ok (.iload_n 1, 1) := by decide +kernel
theorem dX11_shortest_1 : decode cX11_shortest 1 = .ok (.iconst 1, 1) := by decide +kernel
theorem dX11_shortest_2 : decode cX11_shortest 2 = .ok (.if_icmp .lt 31, 3) := by decide +kernel
theorem dX11_shortest_5 : decode cX11_shortest 5 = .ok (.iload_n 1, 1) := by decide +kernel
theorem dX11_shortest_6 : decode cX11_shortest 6 = .ok (.bipush 6, 2) := by decide +kernel
theorem dX11_shortest_8 : decode cX11_shortest 8 = .ok (.if_icmp .gt 25, 3) := by decide +kernel
theorem dX11_shortest_11 : decode cX11_shortest 11 = .ok (.iload_n 2, 1) := by decide +kernel
theorem dX11_shortest_12 : decode cX11_shortest 12 = .ok (.ifCond .lt 21, 3) := by decide +kernel
theorem dX11_shortest_15 : decode cX11_shortest 15 = .ok (.iload_n 2, 1) := by decide +kernel
theorem dX11_shortest_16 : decode cX11_shortest 16 = .ok (.iconst 1, 1) := by decide +kernel
theorem dX11_shortest_17 : decode cX11_shortest 17 = .ok (.if_icmp .gt 16, 3) := by decide +kernel
theorem dX11_shortest_20 : decode cX11_shortest 20 = .ok (.aload_n 0, 1) := by decide +kernel
theorem dX11_shortest_21 : decode cX11_shortest 21 = .ok (.getfield 10, 3) := by decide +kernel
theorem dX11_shortest_24 : decode cX11_shortest 24 = .ok (.iconst 2, 1) := by decide +kernel
theorem dX11_shortest_25 : decode cX11_shortest 25 = .ok (.iload_n 1, 1) := by decide +kernel
theorem dX11_shortest_26 : decode cX11_shortest 26 = .ok (.imul, 1) := by decide +kernel
theorem dX11_shortest_27 : decode cX11_shortest 27 = .ok (.invokevirtual 125, 3) := by decide +kernel
theorem dX11_shortest_30 : decode cX11_shortest 30 = .ok (.ifCond .ne 5, 3) := by decide +kernel
theorem dX11_shortest_33 : decode cX11_shortest 33 = .ok (.iconst (-1), 1) := by decide +kernel
theorem dX11_shortest_34 : decode cX11_shortest 34 = .ok (.ireturn, 1) := by decide +kernel
theorem dX11_shortest_35 : decode cX11_shortest 35 = .ok (.aload_n 0, 1) := by decide +kernel
theorem dX11_shortest_36 : decode cX11_shortest 36 = .ok (.getfield 54, 3) := by decide +kernel
theorem dX11_shortest_39 : decode cX11_shortest 39 = .ok (.aload_n 0, 1) := by decide +kernel
theorem dX11_shortest_40 : decode cX11_shortest 40 = .ok (.getfield 10, 3) := by decide +kernel
theorem dX11_shortest_43 : decode cX11_shortest 43 = .ok (.iload_n 1, 1) := by decide +kernel
theorem dX11_shortest_44 : decode cX11_shortest 44 = .ok (.aload_n 0, 1) := by decide +kernel
theorem dX11_shortest_45 : decode cX11_shortest 45 = .ok (.getfield 81, 3) := by decide +kernel
theorem dX11_shortest_48 : decode cX11_shortest 48 = .ok (.invokevirtual 281, 3) := by decide +kernel
theorem dX11_shortest_51 : decode cX11_shortest 51 = .ok (.istore_n 3, 1) := by decide +kernel
theorem dX11_shortest_52 : decode cX11_shortest 52 = .ok (.aload_n 0, 1) := by decide +kernel
theorem dX11_shortest_53 : decode cX11_shortest 53 = .ok (.getfield 10, 3) := by decide +kernel
theorem dX11_shortest_56 : decode cX11_shortest 56 = .ok (.invokevirtual 132, 3) := by decide +kernel
theorem dX11_shortest_59 : decode cX11_shortest 59 = .ok (.iload_n 3, 1) := by decide +kernel
theorem dX11_shortest_60 : decode cX11_shortest 60 = .ok (.ifCond .eq 18, 3) := by decide +kernel
theorem dX11_shortest_63 : decode cX11_shortest 63 = .ok (.aload_n 0, 1) := by decide +kernel
theorem dX11_shortest_64 : decode cX11_shortest 64 = .ok (.getfield 54, 3) := by decide +kernel
theorem dX11_shortest_67 : decode cX11_shortest 67 = .ok (.aload_n 0, 1) := by decide +kernel
theorem dX11_shortest_68 : decode cX11_shortest 68 = .ok (.getfield 81, 3) := by decide +kernel
theorem dX11_shortest_71 : decode cX11_shortest 71 = .ok (.iload_n 2, 1) := by decide +kernel
theorem dX11_shortest_72 : decode cX11_shortest 72 = .ok (.invokevirtual 285, 3) := by decide +kernel
theorem dX11_shortest_75 : decode cX11_shortest 75 = .ok (.goto 5, 3) := by decide +kernel
theorem dX11_shortest_78 : decode cX11_shortest 78 = .ok (.bipush (-3), 2) := by decide +kernel
theorem dX11_shortest_80 : decode cX11_shortest 80 = .ok (.ireturn, 1) := by decide +kernel
theorem dX11_crack_0 : decode cX11_crack 0 = .ok (.iload_n 1, 1) := by decide +kernel
theorem dX11_crack_1 : decode cX11_crack 1 = .ok (.iconst 1, 1) := by decide +kernel
theorem dX11_crack_2 : decode cX11_crack 2 = .ok (.if_icmp .lt 31, 3) := by decide +kernel
theorem dX11_crack_5 : decode cX11_crack 5 = .ok (.iload_n 1, 1) := by decide +kernel
theorem dX11_crack_6 : decode cX11_crack 6 = .ok (.bipush 12, 2) := by decide +kernel
theorem dX11_crack_8 : decode cX11_crack 8 = .ok (.if_icmp .gt 25, 3) := by decide +kernel
theorem dX11_crack_11 : decode cX11_crack 11 = .ok (.iload_n 2, 1) := by decide +kernel
theorem dX11_crack_12 : decode cX11_crack 12 = .ok (.ifCond .lt 21, 3) := by decide +kernel
theorem dX11_crack_15 : decode cX11_crack 15 = .ok (.iload_n 2, 1) := by decide +kernel
theorem dX11_crack_16 : decode cX11_crack 16 = .ok (.iconst 1, 1) := by decide +kernel
theorem dX11_crack_17 : decode cX11_crack 17 = .ok (.if_icmp .gt 16, 3) := by decide +kernel
theorem dX11_crack_20 : decode cX11_crack 20 = .ok (.aload_n 0, 1) := by decide +kernel
theorem dX11_crack_21 : decode cX11_crack 21 = .ok (.getfield 10, 3) := by decide +kernel
theorem dX11_crack_24 : decode cX11_crack 24 = .ok (.iconst 2, 1) := by decide +kernel
theorem dX11_crack_25 : decode cX11_crack 25 = .ok (.iload_n 1, 1) := by decide +kernel
theorem dX11_crack_26 : decode cX11_crack 26 = .ok (.imul, 1) := by decide +kernel
theorem dX11_crack_27 : decode cX11_crack 27 = .ok (.invokevirtual 125, 3) := by decide +kernel
theorem dX11_crack_30 : decode cX11_crack 30 = .ok (.ifCond .ne 5, 3) := by decide +kernel
theorem dX11_crack_33 : decode cX11_crack 33 = .ok (.iconst (-1), 1) := by decide +kernel
theorem dX11_crack_34 : decode cX11_crack 34 = .ok (.ireturn, 1) := by decide +kernel
theorem dX11_crack_35 : decode cX11_crack 35 = .ok (.aload_n 0, 1) := by decide +kernel
theorem dX11_crack_36 : decode cX11_crack 36 = .ok (.getfield 61, 3) := by decide +kernel
theorem dX11_crack_39 : decode cX11_crack 39 = .ok (.iload_n 1, 1) := by decide +kernel
theorem dX11_crack_40 : decode cX11_crack 40 = .ok (.invokevirtual 288, 3) := by decide +kernel
theorem dX11_crack_43 : decode cX11_crack 43 = .ok (.istore_n 3, 1) := by decide +kernel
theorem dX11_crack_44 : decode cX11_crack 44 = .ok (.aload_n 0, 1) := by decide +kernel
theorem dX11_crack_45 : decode cX11_crack 45 = .ok (.getfield 10, 3) := by decide +kernel
theorem dX11_crack_48 : decode cX11_crack 48 = .ok (.invokevirtual 132, 3) := by decide +kernel
theorem dX11_crack_51 : decode cX11_crack 51 = .ok (.iload_n 2, 1) := by decide +kernel
theorem dX11_crack_52 : decode cX11_crack 52 = .ok (.ifCond .eq 7, 3) := by decide +kernel
theorem dX11_crack_55 : decode cX11_crack 55 = .ok (.iload_n 3, 1) := by decide +kernel
theorem dX11_crack_56 : decode cX11_crack 56 = .ok (.ifCond .ge 7, 3) := by decide +kernel
theorem dX11_crack_59 : decode cX11_crack 59 = .ok (.iload_n 3, 1) := by decide +kernel
theorem dX11_crack_60 : decode cX11_crack 60 = .ok (.goto 11, 3) := by decide +kernel
theorem dX11_crack_63 : decode cX11_crack 63 = .ok (.aload_n 0, 1) := by decide +kernel
theorem dX11_crack_64 : decode cX11_crack 64 = .ok (.getfield 47, 3) := by decide +kernel
theorem dX11_crack_67 : decode cX11_crack 67 = .ok (.iload_n 3, 1) := by decide +kernel
theorem dX11_crack_68 : decode cX11_crack 68 = .ok (.invokevirtual 291, 3) := by decide +kernel
theorem dX11_crack_71 : decode cX11_crack 71 = .ok (.ireturn, 1) := by decide +kernel
theorem dX11_halves_0 : decode cX11_halves 0 = .ok (.iload_n 1, 1) := by decide +kernel
theorem dX11_halves_1 : decode cX11_halves 1 = .ok (.iconst 2, 1) := by decide +kernel
theorem dX11_halves_2 : decode cX11_halves 2 = .ok (.if_icmp .lt 20, 3) := by decide +kernel
theorem dX11_halves_5 : decode cX11_halves 5 = .ok (.iload_n 1, 1) := by decide +kernel
theorem dX11_halves_6 : decode cX11_halves 6 = .ok (.bipush 12, 2) := by decide +kernel
theorem dX11_halves_8 : decode cX11_halves 8 = .ok (.if_icmp .gt 14, 3) := by decide +kernel
theorem dX11_halves_11 : decode cX11_halves 11 = .ok (.aload_n 0, 1) := by decide +kernel
theorem dX11_halves_12 : decode cX11_halves 12 = .ok (.getfield 10, 3) := by decide +kernel
theorem dX11_halves_15 : decode cX11_halves 15 = .ok (.iload_n 1, 1) := by decide +kernel
theorem dX11_halves_16 : decode cX11_halves 16 = .ok (.invokevirtual 125, 3) := by decide +kernel
theorem dX11_halves_19 : decode cX11_halves 19 = .ok (.ifCond .ne 5, 3) := by decide +kernel
theorem dX11_halves_22 : decode cX11_halves 22 = .ok (.iconst (-1), 1) := by decide +kernel
theorem dX11_halves_23 : decode cX11_halves 23 = .ok (.ireturn, 1) := by decide +kernel
theorem dX11_halves_24 : decode cX11_halves 24 = .ok (.aload_n 0, 1) := by decide +kernel
theorem dX11_halves_25 : decode cX11_halves 25 = .ok (.getfield 61, 3) := by decide +kernel
theorem dX11_halves_28 : decode cX11_halves 28 = .ok (.iload_n 1, 1) := by decide +kernel
theorem dX11_halves_29 : decode cX11_halves 29 = .ok (.invokevirtual 294, 3) := by decide +kernel
theorem dX11_halves_32 : decode cX11_halves 32 = .ok (.istore_n 2, 1) := by decide +kernel
theorem dX11_halves_33 : decode cX11_halves 33 = .ok (.aload_n 0, 1) := by decide +kernel
theorem dX11_halves_34 : decode cX11_halves 34 = .ok (.getfield 10, 3) := by decide +kernel
theorem dX11_halves_37 : decode cX11_halves 37 = .ok (.invokevirtual 132, 3) := by decide +kernel
theorem dX11_halves_40 : decode cX11_halves 40 = .ok (.iload_n 2, 1) := by decide +kernel
theorem dX11_halves_41 : decode cX11_halves 41 = .ok (.ireturn, 1) := by decide +kernel
theorem dX11_swaps_0 : decode cX11_swaps 0 = .ok (.iload_n 1, 1) := by decide +kernel
theorem dX11_swaps_1 : decode cX11_swaps 1 = .ok (.iconst 2, 1) := by decide +kernel
theorem dX11_swaps_2 : decode cX11_swaps 2 = .ok (.if_icmp .lt 31, 3) := by decide +kernel
theorem dX11_swaps_5 : decode cX11_swaps 5 = .ok (.iload_n 1, 1) := by decide +kernel
theorem dX11_swaps_6 : decode cX11_swaps 6 = .ok (.bipush 8, 2) := by decide +kernel
theorem dX11_swaps_8 : decode cX11_swaps 8 = .ok (.if_icmp .gt 25, 3) := by decide +kernel
theorem dX11_swaps_11 : decode cX11_swaps 11 = .ok (.iload_n 2, 1) := by decide +kernel
theorem dX11_swaps_12 : decode cX11_swaps 12 = .ok (.ifCond .lt 21, 3) := by decide +kernel
theorem dX11_swaps_15 : decode cX11_swaps 15 = .ok (.iload_n 2, 1) := by decide +kernel
theorem dX11_swaps_16 : decode cX11_swaps 16 = .ok (.iconst 1, 1) := by decide +kernel
theorem dX11_swaps_17 : decode cX11_swaps 17 = .ok (.if_icmp .gt 16, 3) := by decide +kernel
theorem dX11_swaps_20 : decode cX11_swaps 20 = .ok (.aload_n 0, 1) := by decide +kernel
theorem dX11_swaps_21 : decode cX11_swaps 21 = .ok (.getfield 10, 3) := by decide +kernel
theorem dX11_swaps_24 : decode cX11_swaps 24 = .ok (.iload_n 1, 1) := by decide +kernel
theorem dX11_swaps_25 : decode cX11_swaps 25 = .ok (.iload_n 1, 1) := by decide +kernel
theorem dX11_swaps_26 : decode cX11_swaps 26 = .ok (.imul, 1) := by decide +kernel
theorem dX11_swaps_27 : decode cX11_swaps 27 = .ok (.invokevirtual 125, 3) := by decide +kernel
theorem dX11_swaps_30 : decode cX11_swaps 30 = .ok (.ifCond .ne 5, 3) := by decide +kernel
theorem dX11_swaps_33 : decode cX11_swaps 33 = .ok (.iconst (-1), 1) := by decide +kernel
theorem dX11_swaps_34 : decode cX11_swaps 34 = .ok (.ireturn, 1) := by decide +kernel
theorem dX11_swaps_35 : decode cX11_swaps 35 = .ok (.iload_n 2, 1) := by decide +kernel
theorem dX11_swaps_36 : decode cX11_swaps 36 = .ok (.ifCond .ne 14, 3) := by decide +kernel
theorem dX11_swaps_39 : decode cX11_swaps 39 = .ok (.aload_n 0, 1) := by decide +kernel
theorem dX11_swaps_40 : decode cX11_swaps 40 = .ok (.getfield 61, 3) := by decide +kernel
theorem dX11_swaps_43 : decode cX11_swaps 43 = .ok (.iload_n 1, 1) := by decide +kernel
theorem dX11_swaps_44 : decode cX11_swaps 44 = .ok (.invokevirtual 297, 3) := by decide +kernel
theorem dX11_swaps_47 : decode cX11_swaps 47 = .ok (.goto 11, 3) := by decide +kernel
theorem dX11_swaps_50 : decode cX11_swaps 50 = .ok (.aload_n 0, 1) := by decide +kernel
theorem dX11_swaps_51 : decode cX11_swaps 51 = .ok (.getfield 61, 3) := by decide +kernel
theorem dX11_swaps_54 : decode cX11_swaps 54 = .ok (.iload_n 1, 1) := by decide +kernel
theorem dX11_swaps_55 : decode cX11_swaps 55 = .ok (.invokevirtual 300, 3) := by decide +kernel
theorem dX11_swaps_58 : decode cX11_swaps 58 = .ok (.istore_n 3, 1) := by decide +kernel
theorem dX11_swaps_59 : decode cX11_swaps 59 = .ok (.aload_n 0, 1) := by decide +kernel
theorem dX11_swaps_60 : decode cX11_swaps 60 = .ok (.getfield 10, 3) := by decide +kernel
theorem dX11_swaps_63 : decode cX11_swaps 63 = .ok (.invokevirtual 132, 3) := by decide +kernel
theorem dX11_swaps_66 : decode cX11_swaps 66 = .ok (.iload_n 3, 1) := by decide +kernel
theorem dX11_swaps_67 : decode cX11_swaps 67 = .ok (.ireturn, 1) := by decide +kernel
theorem dX11_sale_0 : decode cX11_sale 0 = .ok (.iload_n 1, 1) := by decide +kernel
theorem dX11_sale_1 : decode cX11_sale 1 = .ok (.iconst 2, 1) := by decide +kernel
theorem dX11_sale_2 : decode cX11_sale 2 = .ok (.if_icmp .lt 22, 3) := by decide +kernel
theorem dX11_sale_5 : decode cX11_sale 5 = .ok (.iload_n 1, 1) := by decide +kernel
theorem dX11_sale_6 : decode cX11_sale 6 = .ok (.bipush 8, 2) := by decide +kernel
theorem dX11_sale_8 : decode cX11_sale 8 = .ok (.if_icmp .gt 16, 3) := by decide +kernel
theorem dX11_sale_11 : decode cX11_sale 11 = .ok (.aload_n 0, 1) := by decide +kernel
theorem dX11_sale_12 : decode cX11_sale 12 = .ok (.getfield 10, 3) := by decide +kernel
theorem dX11_sale_15 : decode cX11_sale 15 = .ok (.iload_n 1, 1) := by decide +kernel
theorem dX11_sale_16 : decode cX11_sale 16 = .ok (.iload_n 1, 1) := by decide +kernel
theorem dX11_sale_17 : decode cX11_sale 17 = .ok (.imul, 1) := by decide +kernel
theorem dX11_sale_18 : decode cX11_sale 18 = .ok (.invokevirtual 125, 3) := by decide +kernel
theorem dX11_sale_21 : decode cX11_sale 21 = .ok (.ifCond .ne 5, 3) := by decide +kernel
theorem dX11_sale_24 : decode cX11_sale 24 = .ok (.iconst (-1), 1) := by decide +kernel
theorem dX11_sale_25 : decode cX11_sale 25 = .ok (.ireturn, 1) := by decide +kernel
theorem dX11_sale_26 : decode cX11_sale 26 = .ok (.iload_n 2, 1) := by decide +kernel
theorem dX11_sale_27 : decode cX11_sale 27 = .ok (.bipush 100, 2) := by decide +kernel
theorem dX11_sale_29 : decode cX11_sale 29 = .ok (.if_icmp .eq 14, 3) := by decide +kernel
theorem dX11_sale_32 : decode cX11_sale 32 = .ok (.iload_n 2, 1) := by decide +kernel
theorem dX11_sale_33 : decode cX11_sale 33 = .ok (.ifCond .lt 8, 3) := by decide +kernel
theorem dX11_sale_36 : decode cX11_sale 36 = .ok (.iload_n 2, 1) := by decide +kernel
theorem dX11_sale_37 : decode cX11_sale 37 = .ok (.iload_n 1, 1) := by decide +kernel
theorem dX11_sale_38 : decode cX11_sale 38 = .ok (.if_icmp .lt 5, 3) := by decide +kernel
theorem dX11_sale_41 : decode cX11_sale 41 = .ok (.iconst (-1), 1) := by decide +kernel
theorem dX11_sale_42 : decode cX11_sale 42 = .ok (.ireturn, 1) := by decide +kernel
theorem dX11_sale_43 : decode cX11_sale 43 = .ok (.aload_n 0, 1) := by decide +kernel
theorem dX11_sale_44 : decode cX11_sale 44 = .ok (.getfield 61, 3) := by decide +kernel
theorem dX11_sale_47 : decode cX11_sale 47 = .ok (.iload_n 1, 1) := by decide +kernel
theorem dX11_sale_48 : decode cX11_sale 48 = .ok (.invokevirtual 303, 3) := by decide +kernel
theorem dX11_sale_51 : decode cX11_sale 51 = .ok (.istore_n 3, 1) := by decide +kernel
theorem dX11_sale_52 : decode cX11_sale 52 = .ok (.iload_n 2, 1) := by decide +kernel
theorem dX11_sale_53 : decode cX11_sale 53 = .ok (.bipush 100, 2) := by decide +kernel
theorem dX11_sale_55 : decode cX11_sale 55 = .ok (.if_icmp .ne 7, 3) := by decide +kernel
theorem dX11_sale_58 : decode cX11_sale 58 = .ok (.iload_n 3, 1) := by decide +kernel
theorem dX11_sale_59 : decode cX11_sale 59 = .ok (.goto 12, 3) := by decide +kernel
theorem dX11_sale_62 : decode cX11_sale 62 = .ok (.aload_n 0, 1) := by decide +kernel
theorem dX11_sale_63 : decode cX11_sale 63 = .ok (.getfield 61, 3) := by decide +kernel
theorem dX11_sale_66 : decode cX11_sale 66 = .ok (.iload_n 2, 1) := by decide +kernel
theorem dX11_sale_67 : decode cX11_sale 67 = .ok (.iload_n 1, 1) := by decide +kernel
theorem dX11_sale_68 : decode cX11_sale 68 = .ok (.invokevirtual 306, 3) := by decide +kernel
theorem dX11_sale_71 : decode cX11_sale 71 = .ok (.istore 4, 2) := by decide +kernel
theorem dX11_sale_73 : decode cX11_sale 73 = .ok (.aload_n 0, 1) := by decide +kernel
theorem dX11_sale_74 : decode cX11_sale 74 = .ok (.getfield 10, 3) := by decide +kernel
theorem dX11_sale_77 : decode cX11_sale 77 = .ok (.invokevirtual 132, 3) := by decide +kernel
theorem dX11_sale_80 : decode cX11_sale 80 = .ok (.iload 4, 2) := by decide +kernel
theorem dX11_sale_82 : decode cX11_sale 82 = .ok (.ireturn, 1) := by decide +kernel
theorem dX11_rotas_0 : decode cX11_rotas 0 = .ok (.aload_n 0, 1) := by decide +kernel
theorem dX11_rotas_1 : decode cX11_rotas 1 = .ok (.getfield 61, 3) := by decide +kernel
theorem dX11_rotas_4 : decode cX11_rotas 4 = .ok (.iload_n 1, 1) := by decide +kernel
theorem dX11_rotas_5 : decode cX11_rotas 5 = .ok (.invokevirtual 309, 3) := by decide +kernel
theorem dX11_rotas_8 : decode cX11_rotas 8 = .ok (.lreturn, 1) := by decide +kernel
theorem dX11_panes_0 : decode cX11_panes 0 = .ok (.iload_n 1, 1) := by decide +kernel
theorem dX11_panes_1 : decode cX11_panes 1 = .ok (.iconst 1, 1) := by decide +kernel
theorem dX11_panes_2 : decode cX11_panes 2 = .ok (.if_icmp .lt 31, 3) := by decide +kernel
theorem dX11_panes_5 : decode cX11_panes 5 = .ok (.iload_n 1, 1) := by decide +kernel
theorem dX11_panes_6 : decode cX11_panes 6 = .ok (.bipush 6, 2) := by decide +kernel
theorem dX11_panes_8 : decode cX11_panes 8 = .ok (.if_icmp .gt 25, 3) := by decide +kernel
theorem dX11_panes_11 : decode cX11_panes 11 = .ok (.iload_n 2, 1) := by decide +kernel
theorem dX11_panes_12 : decode cX11_panes 12 = .ok (.iconst 1, 1) := by decide +kernel
theorem dX11_panes_13 : decode cX11_panes 13 = .ok (.if_icmp .lt 20, 3) := by decide +kernel
theorem dX11_panes_16 : decode cX11_panes 16 = .ok (.iload_n 2, 1) := by decide +kernel
theorem dX11_panes_17 : decode cX11_panes 17 = .ok (.bipush 6, 2) := by decide +kernel
theorem dX11_panes_19 : decode cX11_panes 19 = .ok (.if_icmp .gt 14, 3) := by decide +kernel
theorem dX11_panes_22 : decode cX11_panes 22 = .ok (.aload_n 0, 1) := by decide +kernel
theorem dX11_panes_23 : decode cX11_panes 23 = .ok (.getfield 10, 3) := by decide +kernel
theorem dX11_panes_26 : decode cX11_panes 26 = .ok (.iload_n 1, 1) := by decide +kernel
theorem dX11_panes_27 : decode cX11_panes 27 = .ok (.invokevirtual 125, 3) := by decide +kernel
theorem dX11_panes_30 : decode cX11_panes 30 = .ok (.ifCond .ne 5, 3) := by decide +kernel
theorem dX11_panes_33 : decode cX11_panes 33 = .ok (.iconst (-1), 1) := by decide +kernel
theorem dX11_panes_34 : decode cX11_panes 34 = .ok (.ireturn, 1) := by decide +kernel
theorem dX11_panes_35 : decode cX11_panes 35 = .ok (.aload_n 0, 1) := by decide +kernel
theorem dX11_panes_36 : decode cX11_panes 36 = .ok (.getfield 61, 3) := by decide +kernel
theorem dX11_panes_39 : decode cX11_panes 39 = .ok (.iload_n 1, 1) := by decide +kernel
theorem dX11_panes_40 : decode cX11_panes 40 = .ok (.iload_n 2, 1) := by decide +kernel
theorem dX11_panes_41 : decode cX11_panes 41 = .ok (.invokevirtual 313, 3) := by decide +kernel
theorem dX11_panes_44 : decode cX11_panes 44 = .ok (.istore_n 3, 1) := by decide +kernel
theorem dX11_panes_45 : decode cX11_panes 45 = .ok (.aload_n 0, 1) := by decide +kernel
theorem dX11_panes_46 : decode cX11_panes 46 = .ok (.getfield 10, 3) := by decide +kernel
theorem dX11_panes_49 : decode cX11_panes 49 = .ok (.invokevirtual 132, 3) := by decide +kernel
theorem dX11_panes_52 : decode cX11_panes 52 = .ok (.iload_n 3, 1) := by decide +kernel
theorem dX11_panes_53 : decode cX11_panes 53 = .ok (.ireturn, 1) := by decide +kernel
theorem dX11_keepIt_0 : decode cX11_keepIt 0 = .ok (.iload_n 1, 1) := by decide +kernel
theorem dX11_keepIt_1 : decode cX11_keepIt 1 = .ok (.iconst 1, 1) := by decide +kernel
theorem dX11_keepIt_2 : decode cX11_keepIt 2 = .ok (.if_icmp .lt 30, 3) := by decide +kernel
theorem dX11_keepIt_5 : decode cX11_keepIt 5 = .ok (.iload_n 1, 1) := by decide +kernel
theorem dX11_keepIt_6 : decode cX11_keepIt 6 = .ok (.bipush 20, 2) := by decide +kernel
theorem dX11_keepIt_8 : decode cX11_keepIt 8 = .ok (.if_icmp .gt 24, 3) := by decide +kernel
theorem dX11_keepIt_11 : decode cX11_keepIt 11 = .ok (.iload_n 2, 1) := by decide +kernel
theorem dX11_keepIt_12 : decode cX11_keepIt 12 = .ok (.iconst (-1), 1) := by decide +kernel
theorem dX11_keepIt_13 : decode cX11_keepIt 13 = .ok (.if_icmp .lt 19, 3) := by decide +kernel
theorem dX11_keepIt_16 : decode cX11_keepIt 16 = .ok (.iload_n 2, 1) := by decide +kernel
theorem dX11_keepIt_17 : decode cX11_keepIt 17 = .ok (.iload_n 1, 1) := by decide +kernel
theorem dX11_keepIt_18 : decode cX11_keepIt 18 = .ok (.if_icmp .ge 14, 3) := by decide +kernel
theorem dX11_keepIt_21 : decode cX11_keepIt 21 = .ok (.aload_n 0, 1) := by decide +kernel
theorem dX11_keepIt_22 : decode cX11_keepIt 22 = .ok (.getfield 10, 3) := by decide +kernel
theorem dX11_keepIt_25 : decode cX11_keepIt 25 = .ok (.iload_n 1, 1) := by decide +kernel
theorem dX11_keepIt_26 : decode cX11_keepIt 26 = .ok (.invokevirtual 125, 3) := by decide +kernel
theorem dX11_keepIt_29 : decode cX11_keepIt 29 = .ok (.ifCond .ne 5, 3) := by decide +kernel
theorem dX11_keepIt_32 : decode cX11_keepIt 32 = .ok (.iconst (-1), 1) := by decide +kernel
theorem dX11_keepIt_33 : decode cX11_keepIt 33 = .ok (.ireturn, 1) := by decide +kernel
theorem dX11_keepIt_34 : decode cX11_keepIt 34 = .ok (.iload_n 2, 1) := by decide +kernel
theorem dX11_keepIt_35 : decode cX11_keepIt 35 = .ok (.ifCond .ge 14, 3) := by decide +kernel
theorem dX11_keepIt_38 : decode cX11_keepIt 38 = .ok (.aload_n 0, 1) := by decide +kernel
theorem dX11_keepIt_39 : decode cX11_keepIt 39 = .ok (.getfield 61, 3) := by decide +kernel
theorem dX11_keepIt_42 : decode cX11_keepIt 42 = .ok (.iload_n 1, 1) := by decide +kernel
theorem dX11_keepIt_43 : decode cX11_keepIt 43 = .ok (.invokevirtual 316, 3) := by decide +kernel
theorem dX11_keepIt_46 : decode cX11_keepIt 46 = .ok (.goto 12, 3) := by decide +kernel
theorem dX11_keepIt_49 : decode cX11_keepIt 49 = .ok (.aload_n 0, 1) := by decide +kernel
theorem dX11_keepIt_50 : decode cX11_keepIt 50 = .ok (.getfield 61, 3) := by decide +kernel
theorem dX11_keepIt_53 : decode cX11_keepIt 53 = .ok (.iload_n 2, 1) := by decide +kernel
theorem dX11_keepIt_54 : decode cX11_keepIt 54 = .ok (.iload_n 1, 1) := by decide +kernel
theorem dX11_keepIt_55 : decode cX11_keepIt 55 = .ok (.invokevirtual 319, 3) := by decide +kernel
theorem dX11_keepIt_58 : decode cX11_keepIt 58 = .ok (.istore_n 3, 1) := by decide +kernel
theorem dX11_keepIt_59 : decode cX11_keepIt 59 = .ok (.aload_n 0, 1) := by decide +kernel
theorem dX11_keepIt_60 : decode cX11_keepIt 60 = .ok (.getfield 10, 3) := by decide +kernel
theorem dX11_keepIt_63 : decode cX11_keepIt 63 = .ok (.invokevirtual 132, 3) := by decide +kernel
theorem dX11_keepIt_66 : decode cX11_keepIt 66 = .ok (.iload_n 3, 1) := by decide +kernel
theorem dX11_keepIt_67 : decode cX11_keepIt 67 = .ok (.ireturn, 1) := by decide +kernel
theorem dX11_isTurn_0 : decode cX11_isTurn 0 = .ok (.iload_n 0, 1) := by decide +kernel
theorem dX11_isTurn_1 : decode cX11_isTurn 1 = .ok (.ifCond .lt 13, 3) := by decide +kernel
theorem dX11_isTurn_4 : decode cX11_isTurn 4 = .ok (.iload_n 0, 1) := by decide +kernel
theorem dX11_isTurn_5 : decode cX11_isTurn 5 = .ok (.bipush 12, 2) := by decide +kernel
theorem dX11_isTurn_7 : decode cX11_isTurn 7 = .ok (.if_icmp .ge 7, 3) := by decide +kernel
theorem dX11_isTurn_10 : decode cX11_isTurn 10 = .ok (.iconst 1, 1) := by decide +kernel
theorem dX11_isTurn_11 : decode cX11_isTurn 11 = .ok (.goto 4, 3) := by decide +kernel
theorem dX11_isTurn_14 : decode cX11_isTurn 14 = .ok (.iconst 0, 1) := by decide +kernel
theorem dX11_isTurn_15 : decode cX11_isTurn 15 = .ok (.ireturn, 1) := by decide +kernel
theorem dX11_orNoneAtAll_0 : decode cX11_orNoneAtAll 0 = .ok (.iload_n 0, 1) := by decide +kernel
theorem dX11_orNoneAtAll_1 : decode cX11_orNoneAtAll 1 = .ok (.iconst (-1), 1) := by decide +kernel
theorem dX11_orNoneAtAll_2 : decode cX11_orNoneAtAll 2 = .ok (.if_icmp .ne 8, 3) := by decide +kernel
theorem dX11_orNoneAtAll_5 : decode cX11_orNoneAtAll 5 = .ok (.bipush (-2), 2) := by decide +kernel
theorem dX11_orNoneAtAll_7 : decode cX11_orNoneAtAll 7 = .ok (.goto 4, 3) := by decide +kernel
theorem dX11_orNoneAtAll_10 : decode cX11_orNoneAtAll 10 = .ok (.iload_n 0, 1) := by decide +kernel
theorem dX11_orNoneAtAll_11 : decode cX11_orNoneAtAll 11 = .ok (.ireturn, 1) := by decide +kernel
theorem dX11_longestRun_0 : decode cX11_longestRun 0 = .ok (.iload_n 0, 1) := by decide +kernel
theorem dX11_longestRun_1 : decode cX11_longestRun 1 = .ok (.sipush 4095, 3) := by decide +kernel
theorem dX11_longestRun_4 : decode cX11_longestRun 4 = .ok (.if_icmp .ne 6, 3) := by decide +kernel
theorem dX11_longestRun_7 : decode cX11_longestRun 7 = .ok (.bipush 12, 2) := by decide +kernel
theorem dX11_longestRun_9 : decode cX11_longestRun 9 = .ok (.ireturn, 1) := by decide +kernel
theorem dX11_longestRun_10 : decode cX11_longestRun 10 = .ok (.iconst 0, 1) := by decide +kernel
theorem dX11_longestRun_11 : decode cX11_longestRun 11 = .ok (.istore_n 1, 1) := by decide +kernel
theorem dX11_longestRun_12 : decode cX11_longestRun 12 = .ok (.iconst 0, 1) := by decide +kernel
theorem dX11_longestRun_13 : decode cX11_longestRun 13 = .ok (.istore_n 2, 1) := by decide +kernel
theorem dX11_longestRun_14 : decode cX11_longestRun 14 = .ok (.iconst 0, 1) := by decide +kernel
theorem dX11_longestRun_15 : decode cX11_longestRun 15 = .ok (.istore_n 3, 1) := by decide +kernel
theorem dX11_longestRun_16 : decode cX11_longestRun 16 = .ok (.iload_n 3, 1) := by decide +kernel
theorem dX11_longestRun_17 : decode cX11_longestRun 17 = .ok (.bipush 24, 2) := by decide +kernel
theorem dX11_longestRun_19 : decode cX11_longestRun 19 = .ok (.if_icmp .ge 35, 3) := by decide +kernel
theorem dX11_longestRun_22 : decode cX11_longestRun 22 = .ok (.iload_n 0, 1) := by decide +kernel
theorem dX11_longestRun_23 : decode cX11_longestRun 23 = .ok (.iload_n 3, 1) := by decide +kernel
theorem dX11_longestRun_24 : decode cX11_longestRun 24 = .ok (.bipush 12, 2) := by decide +kernel
theorem dX11_longestRun_26 : decode cX11_longestRun 26 = .ok (.irem, 1) := by decide +kernel
theorem dX11_longestRun_27 : decode cX11_longestRun 27 = .ok (.ishr, 1) := by decide +kernel
theorem dX11_longestRun_28 : decode cX11_longestRun 28 = .ok (.iconst 1, 1) := by decide +kernel
theorem dX11_longestRun_29 : decode cX11_longestRun 29 = .ok (.iand, 1) := by decide +kernel
theorem dX11_longestRun_30 : decode cX11_longestRun 30 = .ok (.iconst 1, 1) := by decide +kernel
theorem dX11_longestRun_31 : decode cX11_longestRun 31 = .ok (.if_icmp .ne 9, 3) := by decide +kernel
theorem dX11_longestRun_34 : decode cX11_longestRun 34 = .ok (.iload_n 1, 1) := by decide +kernel
theorem dX11_longestRun_35 : decode cX11_longestRun 35 = .ok (.iconst 1, 1) := by decide +kernel
theorem dX11_longestRun_36 : decode cX11_longestRun 36 = .ok (.iadd, 1) := by decide +kernel
theorem dX11_longestRun_37 : decode cX11_longestRun 37 = .ok (.goto 4, 3) := by decide +kernel
theorem dX11_longestRun_40 : decode cX11_longestRun 40 = .ok (.iconst 0, 1) := by decide +kernel
theorem dX11_longestRun_41 : decode cX11_longestRun 41 = .ok (.istore_n 1, 1) := by decide +kernel
theorem dX11_longestRun_42 : decode cX11_longestRun 42 = .ok (.iload_n 2, 1) := by decide +kernel
theorem dX11_longestRun_43 : decode cX11_longestRun 43 = .ok (.iload_n 1, 1) := by decide +kernel
theorem dX11_longestRun_44 : decode cX11_longestRun 44 = .ok (.invokestatic 322, 3) := by decide +kernel
theorem dX11_longestRun_47 : decode cX11_longestRun 47 = .ok (.istore_n 2, 1) := by decide +kernel
theorem dX11_longestRun_48 : decode cX11_longestRun 48 = .ok (.iinc 3 1, 3) := by decide +kernel
theorem dX11_longestRun_51 : decode cX11_longestRun 51 = .ok (.goto (-35), 3) := by decide +kernel
theorem dX11_longestRun_54 : decode cX11_longestRun 54 = .ok (.iload_n 2, 1) := by decide +kernel
theorem dX11_longestRun_55 : decode cX11_longestRun 55 = .ok (.ireturn, 1) := by decide +kernel
