theorem dX12_feels_19 : decode cX12_feels 19 = .ok (.iconst (-1), 1) := by decide +kernel
theorem dX12_feels_20 : decode cX12_feels 20 = .ok (.if_icmp .ne 8, 3) := by decide +kernel
theorem dX12_feels_23 : decode cX12_feels 23 = .ok (.bipush 16, 2) := by decide +kernel
theorem dX12_feels_25 : decode cX12_feels 25 = .ok (.goto 10, 3) := by decide +kernel
theorem dX12_feels_28 : decode cX12_feels 28 = .ok (.aload_n 0, 1) := by decide +kernel
theorem dX12_feels_29 : decode cX12_feels 29 = .ok (.getfield 7, 3) := by decide +kernel
theorem dX12_feels_32 : decode cX12_feels 32 = .ok (.bipush 16, 2) := by decide +kernel
theorem dX12_feels_34 : decode cX12_feels 34 = .ok (.iaload, 1) := by decide +kernel
theorem dX12_feels_35 : decode cX12_feels 35 = .ok (.iastore, 1) := by decide +kernel
theorem dX12_feels_36 : decode cX12_feels 36 = .ok (.aload_n 0, 1) := by decide +kernel
theorem dX12_feels_37 : decode cX12_feels 37 = .ok (.getfield 74, 3) := by decide +kernel
theorem dX12_feels_40 : decode cX12_feels 40 = .ok (.iconst 2, 1) := by decide +kernel
theorem dX12_feels_41 : decode cX12_feels 41 = .ok (.iload_n 2, 1) := by decide +kernel
theorem dX12_feels_42 : decode cX12_feels 42 = .ok (.iastore, 1) := by decide +kernel
theorem dX12_feels_43 : decode cX12_feels 43 = .ok (.aload_n 0, 1) := by decide +kernel
theorem dX12_feels_44 : decode cX12_feels 44 = .ok (.getfield 74, 3) := by decide +kernel
theorem dX12_feels_47 : decode cX12_feels 47 = .ok (.iconst 3, 1) := by decide +kernel
theorem dX12_feels_48 : decode cX12_feels 48 = .ok (.aload_n 0, 1) := by decide +kernel
theorem dX12_feels_49 : decode cX12_feels 49 = .ok (.getfield 7, 3) := by decide +kernel
theorem dX12_feels_52 : decode cX12_feels 52 = .ok (.bipush 16, 2) := by decide +kernel
theorem dX12_feels_54 : decode cX12_feels 54 = .ok (.iaload, 1) := by decide +kernel
theorem dX12_feels_55 : decode cX12_feels 55 = .ok (.iconst (-1), 1) := by decide +kernel
theorem dX12_feels_56 : decode cX12_feels 56 = .ok (.if_icmp .ne 7, 3) := by decide +kernel
theorem dX12_feels_59 : decode cX12_feels 59 = .ok (.iconst 0, 1) := by decide +kernel
theorem dX12_feels_60 : decode cX12_feels 60 = .ok (.goto 15, 3) := by decide +kernel
theorem dX12_feels_63 : decode cX12_feels 63 = .ok (.iload_n 1, 1) := by decide +kernel
theorem dX12_feels_64 : decode cX12_feels 64 = .ok (.aload_n 0, 1) := by decide +kernel
theorem dX12_feels_65 : decode cX12_feels 65 = .ok (.getfield 7, 3) := by decide +kernel
theorem dX12_feels_68 : decode cX12_feels 68 = .ok (.bipush 16, 2) := by decide +kernel
theorem dX12_feels_70 : decode cX12_feels 70 = .ok (.iaload, 1) := by decide +kernel
theorem dX12_feels_71 : decode cX12_feels 71 = .ok (.isub, 1) := by decide +kernel
theorem dX12_feels_72 : decode cX12_feels 72 = .ok (.invokestatic 317, 3) := by decide +kernel
theorem dX12_feels_75 : decode cX12_feels 75 = .ok (.iastore, 1) := by decide +kernel
theorem dX12_feels_76 : decode cX12_feels 76 = .ok (.aload_n 0, 1) := by decide +kernel
theorem dX12_feels_77 : decode cX12_feels 77 = .ok (.getfield 74, 3) := by decide +kernel
theorem dX12_feels_80 : decode cX12_feels 80 = .ok (.iconst 4, 1) := by decide +kernel
theorem dX12_feels_81 : decode cX12_feels 81 = .ok (.aload_n 0, 1) := by decide +kernel
theorem dX12_feels_82 : decode cX12_feels 82 = .ok (.iload_n 1, 1) := by decide +kernel
theorem dX12_feels_83 : decode cX12_feels 83 = .ok (.iload_n 2, 1) := by decide +kernel
theorem dX12_feels_84 : decode cX12_feels 84 = .ok (.invokevirtual 152, 3) := by decide +kernel
theorem dX12_feels_87 : decode cX12_feels 87 = .ok (.invokestatic 320, 3) := by decide +kernel
theorem dX12_feels_90 : decode cX12_feels 90 = .ok (.iastore, 1) := by decide +kernel
theorem dX12_feels_91 : decode cX12_feels 91 = .ok (.aload_n 0, 1) := by decide +kernel
theorem dX12_feels_92 : decode cX12_feels 92 = .ok (.getfield 74, 3) := by decide +kernel
theorem dX12_feels_95 : decode cX12_feels 95 = .ok (.iconst 5, 1) := by decide +kernel
theorem dX12_feels_96 : decode cX12_feels 96 = .ok (.aload_n 0, 1) := by decide +kernel
theorem dX12_feels_97 : decode cX12_feels 97 = .ok (.getfield 7, 3) := by decide +kernel
theorem dX12_feels_100 : decode cX12_feels 100 = .ok (.bipush 17, 2) := by decide +kernel
theorem dX12_feels_102 : decode cX12_feels 102 = .ok (.iaload, 1) := by decide +kernel
theorem dX12_feels_103 : decode cX12_feels 103 = .ok (.invokestatic 320, 3) := by decide +kernel
theorem dX12_feels_106 : decode cX12_feels 106 = .ok (.iastore, 1) := by decide +kernel
theorem dX12_feels_107 : decode cX12_feels 107 = .ok (.aload_n 0, 1) := by decide +kernel
theorem dX12_feels_108 : decode cX12_feels 108 = .ok (.getfield 74, 3) := by decide +kernel
theorem dX12_feels_111 : decode cX12_feels 111 = .ok (.bipush 6, 2) := by decide +kernel
theorem dX12_feels_113 : decode cX12_feels 113 = .ok (.aload_n 0, 1) := by decide +kernel
theorem dX12_feels_114 : decode cX12_feels 114 = .ok (.getfield 7, 3) := by decide +kernel
theorem dX12_feels_117 : decode cX12_feels 117 = .ok (.bipush 18, 2) := by decide +kernel
theorem dX12_feels_119 : decode cX12_feels 119 = .ok (.iaload, 1) := by decide +kernel
theorem dX12_feels_120 : decode cX12_feels 120 = .ok (.bipush 100, 2) := by decide +kernel
theorem dX12_feels_122 : decode cX12_feels 122 = .ok (.irem, 1) := by decide +kernel
theorem dX12_feels_123 : decode cX12_feels 123 = .ok (.iastore, 1) := by decide +kernel
theorem dX12_feels_124 : decode cX12_feels 124 = .ok (.aload_n 0, 1) := by decide +kernel
theorem dX12_feels_125 : decode cX12_feels 125 = .ok (.getfield 74, 3) := by decide +kernel
theorem dX12_feels_128 : decode cX12_feels 128 = .ok (.bipush 7, 2) := by decide +kernel
theorem dX12_feels_130 : decode cX12_feels 130 = .ok (.aload_n 0, 1) := by decide +kernel
theorem dX12_feels_131 : decode cX12_feels 131 = .ok (.getfield 7, 3) := by decide +kernel
theorem dX12_feels_134 : decode cX12_feels 134 = .ok (.bipush 19, 2) := by decide +kernel
theorem dX12_feels_136 : decode cX12_feels 136 = .ok (.iaload, 1) := by decide +kernel
theorem dX12_feels_137 : decode cX12_feels 137 = .ok (.bipush 100, 2) := by decide +kernel
theorem dX12_feels_139 : decode cX12_feels 139 = .ok (.irem, 1) := by decide +kernel
theorem dX12_feels_140 : decode cX12_feels 140 = .ok (.iastore, 1) := by decide +kernel
theorem dX12_feels_141 : decode cX12_feels 141 = .ok (.aload_n 0, 1) := by decide +kernel
theorem dX12_feels_142 : decode cX12_feels 142 = .ok (.getfield 74, 3) := by decide +kernel
theorem dX12_feels_145 : decode cX12_feels 145 = .ok (.bipush 8, 2) := by decide +kernel
theorem dX12_feels_147 : decode cX12_feels 147 = .ok (.iload_n 3, 1) := by decide +kernel
theorem dX12_feels_148 : decode cX12_feels 148 = .ok (.iastore, 1) := by decide +kernel
theorem dX12_feels_149 : decode cX12_feels 149 = .ok (.return_, 1) := by decide +kernel
theorem dX12_isCarried_0 : decode cX12_isCarried 0 = .ok (.aload_n 0, 1) := by decide +kernel
theorem dX12_isCarried_1 : decode cX12_isCarried 1 = .ok (.iload_n 1, 1) := by decide +kernel
theorem dX12_isCarried_2 : decode cX12_isCarried 2 = .ok (.iload_n 2, 1) := by decide +kernel
theorem dX12_isCarried_3 : decode cX12_isCarried 3 = .ok (.iload_n 3, 1) := by decide +kernel
theorem dX12_isCarried_4 : decode cX12_isCarried 4 = .ok (.invokevirtual 323, 3) := by decide +kernel
theorem dX12_isCarried_7 : decode cX12_isCarried 7 = .ok (.aload_n 0, 1) := by decide +kernel
theorem dX12_isCarried_8 : decode cX12_isCarried 8 = .ok (.bipush 120, 2) := by decide +kernel
theorem dX12_isCarried_10 : decode cX12_isCarried 10 = .ok (.invokevirtual 327, 3) := by decide +kernel
theorem dX12_isCarried_13 : decode cX12_isCarried 13 = .ok (.ifCond .ne 14, 3) := by decide +kernel
theorem dX12_isCarried_16 : decode cX12_isCarried 16 = .ok (.aload_n 0, 1) := by decide +kernel
theorem dX12_isCarried_17 : decode cX12_isCarried 17 = .ok (.getfield 7, 3) := by decide +kernel
theorem dX12_isCarried_20 : decode cX12_isCarried 20 = .ok (.bipush 16, 2) := by decide +kernel
theorem dX12_isCarried_22 : decode cX12_isCarried 22 = .ok (.iaload, 1) := by decide +kernel
theorem dX12_isCarried_23 : decode cX12_isCarried 23 = .ok (.iload_n 1, 1) := by decide +kernel
theorem dX12_isCarried_24 : decode cX12_isCarried 24 = .ok (.if_icmp .ne 4, 3) := by decide +kernel
theorem dX12_isCarried_27 : decode cX12_isCarried 27 = .ok (.return_, 1) := by decide +kernel
theorem dX12_isCarried_28 : decode cX12_isCarried 28 = .ok (.aload_n 0, 1) := by decide +kernel
theorem dX12_isCarried_29 : decode cX12_isCarried 29 = .ok (.bipush 99, 2) := by decide +kernel
theorem dX12_isCarried_31 : decode cX12_isCarried 31 = .ok (.bipush 9, 2) := by decide +kernel
theorem dX12_isCarried_33 : decode cX12_isCarried 33 = .ok (.iconst 0, 1) := by decide +kernel
theorem dX12_isCarried_34 : decode cX12_isCarried 34 = .ok (.invokevirtual 330, 3) := by decide +kernel
theorem dX12_isCarried_37 : decode cX12_isCarried 37 = .ok (.sipush 9999, 3) := by decide +kernel
theorem dX12_isCarried_40 : decode cX12_isCarried 40 = .ok (.aload_n 0, 1) := by decide +kernel
theorem dX12_isCarried_41 : decode cX12_isCarried 41 = .ok (.getfield 7, 3) := by decide +kernel
theorem dX12_isCarried_44 : decode cX12_isCarried 44 = .ok (.bipush 18, 2) := by decide +kernel
theorem dX12_isCarried_46 : decode cX12_isCarried 46 = .ok (.iaload, 1) := by decide +kernel
theorem dX12_isCarried_47 : decode cX12_isCarried 47 = .ok (.isub, 1) := by decide +kernel
theorem dX12_isCarried_48 : decode cX12_isCarried 48 = .ok (.invokestatic 333, 3) := by decide +kernel
theorem dX12_isCarried_51 : decode cX12_isCarried 51 = .ok (.istore 4, 2) := by decide +kernel
theorem dX12_isCarried_53 : decode cX12_isCarried 53 = .ok (.aload_n 0, 1) := by decide +kernel
theorem dX12_isCarried_54 : decode cX12_isCarried 54 = .ok (.getfield 7, 3) := by decide +kernel
theorem dX12_isCarried_57 : decode cX12_isCarried 57 = .ok (.bipush 18, 2) := by decide +kernel
theorem dX12_isCarried_59 : decode cX12_isCarried 59 = .ok (.aload_n 0, 1) := by decide +kernel
theorem dX12_isCarried_60 : decode cX12_isCarried 60 = .ok (.getfield 7, 3) := by decide +kernel
theorem dX12_isCarried_63 : decode cX12_isCarried 63 = .ok (.bipush 18, 2) := by decide +kernel
theorem dX12_isCarried_65 : decode cX12_isCarried 65 = .ok (.iaload, 1) := by decide +kernel
theorem dX12_isCarried_66 : decode cX12_isCarried 66 = .ok (.iload 4, 2) := by decide +kernel
theorem dX12_isCarried_68 : decode cX12_isCarried 68 = .ok (.iadd, 1) := by decide +kernel
theorem dX12_isCarried_69 : decode cX12_isCarried 69 = .ok (.iastore, 1) := by decide +kernel
theorem dX12_isCarried_70 : decode cX12_isCarried 70 = .ok (.aload_n 0, 1) := by decide +kernel
theorem dX12_isCarried_71 : decode cX12_isCarried 71 = .ok (.aload_n 0, 1) := by decide +kernel
theorem dX12_isCarried_72 : decode cX12_isCarried 72 = .ok (.getfield 336, 3) := by decide +kernel
theorem dX12_isCarried_75 : decode cX12_isCarried 75 = .ok (.iload 4, 2) := by decide +kernel
theorem dX12_isCarried_77 : decode cX12_isCarried 77 = .ok (.iadd, 1) := by decide +kernel
theorem dX12_isCarried_78 : decode cX12_isCarried 78 = .ok (.putfield 336, 3) := by decide +kernel
theorem dX12_isCarried_81 : decode cX12_isCarried 81 = .ok (.aload_n 0, 1) := by decide +kernel
theorem dX12_isCarried_82 : decode cX12_isCarried 82 = .ok (.getfield 7, 3) := by decide +kernel
theorem dX12_isCarried_85 : decode cX12_isCarried 85 = .ok (.bipush 16, 2) := by decide +kernel
theorem dX12_isCarried_87 : decode cX12_isCarried 87 = .ok (.iload_n 1, 1) := by decide +kernel
theorem dX12_isCarried_88 : decode cX12_isCarried 88 = .ok (.iastore, 1) := by decide +kernel
theorem dX12_isCarried_89 : decode cX12_isCarried 89 = .ok (.return_, 1) := by decide +kernel
theorem dX12_turnGoes_0 : decode cX12_turnGoes 0 = .ok (.aload_n 0, 1) := by decide +kernel
theorem dX12_turnGoes_1 : decode cX12_turnGoes 1 = .ok (.getfield 7, 3) := by decide +kernel
theorem dX12_turnGoes_4 : decode cX12_turnGoes 4 = .ok (.bipush 20, 2) := by decide +kernel
theorem dX12_turnGoes_6 : decode cX12_turnGoes 6 = .ok (.sipush 25173, 3) := by decide +kernel
theorem dX12_turnGoes_9 : decode cX12_turnGoes 9 = .ok (.aload_n 0, 1) := by decide +kernel
theorem dX12_turnGoes_10 : decode cX12_turnGoes 10 = .ok (.getfield 7, 3) := by decide +kernel
theorem dX12_turnGoes_13 : decode cX12_turnGoes 13 = .ok (.bipush 20, 2) := by decide +kernel
theorem dX12_turnGoes_15 : decode cX12_turnGoes 15 = .ok (.iaload, 1) := by decide +kernel
theorem dX12_turnGoes_16 : decode cX12_turnGoes 16 = .ok (.imul, 1) := by decide +kernel
theorem dX12_turnGoes_17 : decode cX12_turnGoes 17 = .ok (.sipush 13849, 3) := by decide +kernel
theorem dX12_turnGoes_20 : decode cX12_turnGoes 20 = .ok (.iadd, 1) := by decide +kernel
theorem dX12_turnGoes_21 : decode cX12_turnGoes 21 = .ok (.ldc 113, 2) := by decide +kernel
theorem dX12_turnGoes_23 : decode cX12_turnGoes 23 = .ok (.irem, 1) := by decide +kernel
theorem dX12_turnGoes_24 : decode cX12_turnGoes 24 = .ok (.iastore, 1) := by decide +kernel
theorem dX12_turnGoes_25 : decode cX12_turnGoes 25 = .ok (.aload_n 0, 1) := by decide +kernel
theorem dX12_turnGoes_26 : decode cX12_turnGoes 26 = .ok (.getfield 7, 3) := by decide +kernel
theorem dX12_turnGoes_29 : decode cX12_turnGoes 29 = .ok (.bipush 20, 2) := by decide +kernel
theorem dX12_turnGoes_31 : decode cX12_turnGoes 31 = .ok (.iaload, 1) := by decide +kernel
theorem dX12_turnGoes_32 : decode cX12_turnGoes 32 = .ok (.bipush 10, 2) := by decide +kernel
theorem dX12_turnGoes_34 : decode cX12_turnGoes 34 = .ok (.irem, 1) := by decide +kernel
theorem dX12_turnGoes_35 : decode cX12_turnGoes 35 = .ok (.istore_n 2, 1) := by decide +kernel
theorem dX12_turnGoes_36 : decode cX12_turnGoes 36 = .ok (.aload_n 0, 1) := by decide +kernel
theorem dX12_turnGoes_37 : decode cX12_turnGoes 37 = .ok (.aload_n 0, 1) := by decide +kernel
theorem dX12_turnGoes_38 : decode cX12_turnGoes 38 = .ok (.getfield 19, 3) := by decide +kernel
theorem dX12_turnGoes_41 : decode cX12_turnGoes 41 = .ok (.iload_n 1, 1) := by decide +kernel
theorem dX12_turnGoes_42 : decode cX12_turnGoes 42 = .ok (.iaload, 1) := by decide +kernel
theorem dX12_turnGoes_43 : decode cX12_turnGoes 43 = .ok (.iload_n 1, 1) := by decide +kernel
theorem dX12_turnGoes_44 : decode cX12_turnGoes 44 = .ok (.iload_n 2, 1) := by decide +kernel
theorem dX12_turnGoes_45 : decode cX12_turnGoes 45 = .ok (.invokevirtual 339, 3) := by decide +kernel
theorem dX12_turnGoes_48 : decode cX12_turnGoes 48 = .ok (.aload_n 0, 1) := by decide +kernel
theorem dX12_turnGoes_49 : decode cX12_turnGoes 49 = .ok (.getfield 7, 3) := by decide +kernel
theorem dX12_turnGoes_52 : decode cX12_turnGoes 52 = .ok (.bipush 16, 2) := by decide +kernel
theorem dX12_turnGoes_54 : decode cX12_turnGoes 54 = .ok (.iaload, 1) := by decide +kernel
theorem dX12_turnGoes_55 : decode cX12_turnGoes 55 = .ok (.istore_n 3, 1) := by decide +kernel
theorem dX12_turnGoes_56 : decode cX12_turnGoes 56 = .ok (.iload_n 3, 1) := by decide +kernel
theorem dX12_turnGoes_57 : decode cX12_turnGoes 57 = .ok (.iconst (-1), 1) := by decide +kernel
theorem dX12_turnGoes_58 : decode cX12_turnGoes 58 = .ok (.if_icmp .ne 4, 3) := by decide +kernel
theorem dX12_turnGoes_61 : decode cX12_turnGoes 61 = .ok (.return_, 1) := by decide +kernel
theorem dX12_turnGoes_62 : decode cX12_turnGoes 62 = .ok (.aload_n 0, 1) := by decide +kernel
theorem dX12_turnGoes_63 : decode cX12_turnGoes 63 = .ok (.iload_n 3, 1) := by decide +kernel
theorem dX12_turnGoes_64 : decode cX12_turnGoes 64 = .ok (.iload_n 1, 1) := by decide +kernel
theorem dX12_turnGoes_65 : decode cX12_turnGoes 65 = .ok (.iload_n 2, 1) := by decide +kernel
theorem dX12_turnGoes_66 : decode cX12_turnGoes 66 = .ok (.invokevirtual 323, 3) := by decide +kernel
theorem dX12_turnGoes_69 : decode cX12_turnGoes 69 = .ok (.aload_n 0, 1) := by decide +kernel
theorem dX12_turnGoes_70 : decode cX12_turnGoes 70 = .ok (.iload_n 3, 1) := by decide +kernel
theorem dX12_turnGoes_71 : decode cX12_turnGoes 71 = .ok (.iload_n 1, 1) := by decide +kernel
theorem dX12_turnGoes_72 : decode cX12_turnGoes 72 = .ok (.invokevirtual 152, 3) := by decide +kernel
theorem dX12_turnGoes_75 : decode cX12_turnGoes 75 = .ok (.istore 4, 2) := by decide +kernel
theorem dX12_turnGoes_77 : decode cX12_turnGoes 77 = .ok (.aload_n 0, 1) := by decide +kernel
theorem dX12_turnGoes_78 : decode cX12_turnGoes 78 = .ok (.getfield 7, 3) := by decide +kernel
theorem dX12_turnGoes_81 : decode cX12_turnGoes 81 = .ok (.iconst 0, 1) := by decide +kernel
theorem dX12_turnGoes_82 : decode cX12_turnGoes 82 = .ok (.iload_n 3, 1) := by decide +kernel
theorem dX12_turnGoes_83 : decode cX12_turnGoes 83 = .ok (.iadd, 1) := by decide +kernel
theorem dX12_turnGoes_84 : decode cX12_turnGoes 84 = .ok (.ldc_w 342, 3) := by decide +kernel
theorem dX12_turnGoes_87 : decode cX12_turnGoes 87 = .ok (.aload_n 0, 1) := by decide +kernel
theorem dX12_turnGoes_88 : decode cX12_turnGoes 88 = .ok (.getfield 7, 3) := by decide +kernel
theorem dX12_turnGoes_91 : decode cX12_turnGoes 91 = .ok (.iconst 0, 1) := by decide +kernel
theorem dX12_turnGoes_92 : decode cX12_turnGoes 92 = .ok (.iload_n 3, 1) := by decide +kernel
theorem dX12_turnGoes_93 : decode cX12_turnGoes 93 = .ok (.iadd, 1) := by decide +kernel
theorem dX12_turnGoes_94 : decode cX12_turnGoes 94 = .ok (.iaload, 1) := by decide +kernel
theorem dX12_turnGoes_95 : decode cX12_turnGoes 95 = .ok (.aload_n 0, 1) := by decide +kernel
theorem dX12_turnGoes_96 : decode cX12_turnGoes 96 = .ok (.bipush 106, 2) := by decide +kernel
theorem dX12_turnGoes_98 : decode cX12_turnGoes 98 = .ok (.bipush 99, 2) := by decide +kernel
theorem dX12_turnGoes_100 : decode cX12_turnGoes 100 = .ok (.iload 4, 2) := by decide +kernel
theorem dX12_turnGoes_102 : decode cX12_turnGoes 102 = .ok (.invokestatic 320, 3) := by decide +kernel
theorem dX12_turnGoes_105 : decode cX12_turnGoes 105 = .ok (.aload_n 0, 1) := by decide +kernel
theorem dX12_turnGoes_106 : decode cX12_turnGoes 106 = .ok (.getfield 7, 3) := by decide +kernel
theorem dX12_turnGoes_109 : decode cX12_turnGoes 109 = .ok (.bipush 17, 2) := by decide +kernel
theorem dX12_turnGoes_111 : decode cX12_turnGoes 111 = .ok (.iaload, 1) := by decide +kernel
theorem dX12_turnGoes_112 : decode cX12_turnGoes 112 = .ok (.invokestatic 320, 3) := by decide +kernel
theorem dX12_turnGoes_115 : decode cX12_turnGoes 115 = .ok (.iadd, 1) := by decide +kernel
theorem dX12_turnGoes_116 : decode cX12_turnGoes 116 = .ok (.invokevirtual 330, 3) := by decide +kernel
theorem dX12_turnGoes_119 : decode cX12_turnGoes 119 = .ok (.iadd, 1) := by decide +kernel
theorem dX12_turnGoes_120 : decode cX12_turnGoes 120 = .ok (.invokestatic 333, 3) := by decide +kernel
theorem dX12_turnGoes_123 : decode cX12_turnGoes 123 = .ok (.iastore, 1) := by decide +kernel
theorem dX12_turnGoes_124 : decode cX12_turnGoes 124 = .ok (.iload 4, 2) := by decide +kernel
theorem dX12_turnGoes_126 : decode cX12_turnGoes 126 = .ok (.ifCond .eq 12, 3) := by decide +kernel
theorem dX12_turnGoes_129 : decode cX12_turnGoes 129 = .ok (.aload_n 0, 1) := by decide +kernel
theorem dX12_turnGoes_130 : decode cX12_turnGoes 130 = .ok (.getfield 7, 3) := by decide +kernel
theorem dX12_turnGoes_133 : decode cX12_turnGoes 133 = .ok (.bipush 17, 2) := by decide +kernel
theorem dX12_turnGoes_135 : decode cX12_turnGoes 135 = .ok (.iload 4, 2) := by decide +kernel
theorem dX12_turnGoes_137 : decode cX12_turnGoes 137 = .ok (.iastore, 1) := by decide +kernel
theorem dX12_turnGoes_138 : decode cX12_turnGoes 138 = .ok (.return_, 1) := by decide +kernel
theorem dX12_dayGoes_0 : decode cX12_dayGoes 0 = .ok (.iconst 0, 1) := by decide +kernel
theorem dX12_dayGoes_1 : decode cX12_dayGoes 1 = .ok (.istore_n 1, 1) := by decide +kernel
theorem dX12_dayGoes_2 : decode cX12_dayGoes 2 = .ok (.iload_n 1, 1) := by decide +kernel
theorem dX12_dayGoes_3 : decode cX12_dayGoes 3 = .ok (.bipush 12, 2) := by decide +kernel
theorem dX12_dayGoes_5 : decode cX12_dayGoes 5 = .ok (.if_icmp .ge 24, 3) := by decide +kernel
theorem dX12_dayGoes_8 : decode cX12_dayGoes 8 = .ok (.aload_n 0, 1) := by decide +kernel
theorem dX12_dayGoes_9 : decode cX12_dayGoes 9 = .ok (.getfield 19, 3) := by decide +kernel
theorem dX12_dayGoes_12 : decode cX12_dayGoes 12 = .ok (.iload_n 1, 1) := by decide +kernel
theorem dX12_dayGoes_13 : decode cX12_dayGoes 13 = .ok (.iaload, 1) := by decide +kernel
theorem dX12_dayGoes_14 : decode cX12_dayGoes 14 = .ok (.iconst (-1), 1) := by decide +kernel
theorem dX12_dayGoes_15 : decode cX12_dayGoes 15 = .ok (.if_icmp .eq 8, 3) := by decide +kernel
theorem dX12_dayGoes_18 : decode cX12_dayGoes 18 = .ok (.aload_n 0, 1) := by decide +kernel
theorem dX12_dayGoes_19 : decode cX12_dayGoes 19 = .ok (.iload_n 1, 1) := by decide +kernel
theorem dX12_dayGoes_20 : decode cX12_dayGoes 20 = .ok (.invokevirtual 343, 3) := by decide +kernel
theorem dX12_dayGoes_23 : decode cX12_dayGoes 23 = .ok (.iinc 1 1, 3) := by decide +kernel
theorem dX12_dayGoes_26 : decode cX12_dayGoes 26 = .ok (.goto (-24), 3) := by decide +kernel
theorem dX12_dayGoes_29 : decode cX12_dayGoes 29 = .ok (.aload_n 0, 1) := by decide +kernel
theorem dX12_dayGoes_30 : decode cX12_dayGoes 30 = .ok (.getfield 7, 3) := by decide +kernel
theorem dX12_dayGoes_33 : decode cX12_dayGoes 33 = .ok (.bipush 19, 2) := by decide +kernel
theorem dX12_dayGoes_35 : decode cX12_dayGoes 35 = .ok (.aload_n 0, 1) := by decide +kernel
theorem dX12_dayGoes_36 : decode cX12_dayGoes 36 = .ok (.getfield 7, 3) := by decide +kernel
theorem dX12_dayGoes_39 : decode cX12_dayGoes 39 = .ok (.bipush 19, 2) := by decide +kernel
theorem dX12_dayGoes_41 : decode cX12_dayGoes 41 = .ok (.iaload, 1) := by decide +kernel
theorem dX12_dayGoes_42 : decode cX12_dayGoes 42 = .ok (.iconst 1, 1) := by decide +kernel
theorem dX12_dayGoes_43 : decode cX12_dayGoes 43 = .ok (.iadd, 1) := by decide +kernel
theorem dX12_dayGoes_44 : decode cX12_dayGoes 44 = .ok (.iastore, 1) := by decide +kernel
theorem dX12_dayGoes_45 : decode cX12_dayGoes 45 = .ok (.return_, 1) := by decide +kernel
theorem dX12_daysGo_0 : decode cX12_daysGo 0 = .ok (.aload_n 0, 1) := by decide +kernel
theorem dX12_daysGo_1 : decode cX12_daysGo 1 = .ok (.iconst 0, 1) := by decide +kernel
theorem dX12_daysGo_2 : decode cX12_daysGo 2 = .ok (.putfield 336, 3) := by decide +kernel
theorem dX12_daysGo_5 : decode cX12_daysGo 5 = .ok (.iconst 0, 1) := by decide +kernel
theorem dX12_daysGo_6 : decode cX12_daysGo 6 = .ok (.istore_n 2, 1) := by decide +kernel
theorem dX12_daysGo_7 : decode cX12_daysGo 7 = .ok (.iload_n 2, 1) := by decide +kernel
theorem dX12_daysGo_8 : decode cX12_daysGo 8 = .ok (.iload_n 1, 1) := by decide +kernel
theorem dX12_daysGo_9 : decode cX12_daysGo 9 = .ok (.if_icmp .ge 26, 3) := by decide +kernel
theorem dX12_daysGo_12 : decode cX12_daysGo 12 = .ok (.aload_n 0, 1) := by decide +kernel
theorem dX12_daysGo_13 : decode cX12_daysGo 13 = .ok (.getfield 7, 3) := by decide +kernel
theorem dX12_daysGo_16 : decode cX12_daysGo 16 = .ok (.bipush 19, 2) := by decide +kernel
theorem dX12_daysGo_18 : decode cX12_daysGo 18 = .ok (.iaload, 1) := by decide +kernel
theorem dX12_daysGo_19 : decode cX12_daysGo 19 = .ok (.sipush 9999, 3) := by decide +kernel
theorem dX12_daysGo_22 : decode cX12_daysGo 22 = .ok (.if_icmp .ge 13, 3) := by decide +kernel
theorem dX12_daysGo_25 : decode cX12_daysGo 25 = .ok (.aload_n 0, 1) := by decide +kernel
theorem dX12_daysGo_26 : decode cX12_daysGo 26 = .ok (.invokevirtual 346, 3) := by decide +kernel
theorem dX12_daysGo_29 : decode cX12_daysGo 29 = .ok (.iinc 2 1, 3) := by decide +kernel
theorem dX12_daysGo_32 : decode cX12_daysGo 32 = .ok (.goto (-25), 3) := by decide +kernel
theorem dX12_daysGo_35 : decode cX12_daysGo 35 = .ok (.return_, 1) := by decide +kernel
theorem dX12_days_0 : decode cX12_days 0 = .ok (.iload_n 1, 1) := by decide +kernel
theorem dX12_days_1 : decode cX12_days 1 = .ok (.iconst 1, 1) := by decide +kernel
theorem dX12_days_2 : decode cX12_days 2 = .ok (.bipush 100, 2) := by decide +kernel
theorem dX12_days_4 : decode cX12_days 4 = .ok (.invokestatic 134, 3) := by decide +kernel
theorem dX12_days_7 : decode cX12_days 7 = .ok (.ifCond .ne 5, 3) := by decide +kernel
theorem dX12_days_10 : decode cX12_days 10 = .ok (.iconst (-1), 1) := by decide +kernel
theorem dX12_days_11 : decode cX12_days 11 = .ok (.ireturn, 1) := by decide +kernel
theorem dX12_days_12 : decode cX12_days 12 = .ok (.aload_n 0, 1) := by decide +kernel
theorem dX12_days_13 : decode cX12_days 13 = .ok (.iload_n 1, 1) := by decide +kernel
theorem dX12_days_14 : decode cX12_days 14 = .ok (.invokevirtual 349, 3) := by decide +kernel
theorem dX12_days_17 : decode cX12_days 17 = .ok (.aload_n 0, 1) := by decide +kernel
theorem dX12_days_18 : decode cX12_days 18 = .ok (.getfield 336, 3) := by decide +kernel
theorem dX12_days_21 : decode cX12_days 21 = .ok (.ireturn, 1) := by decide +kernel
theorem dX12_joyOfAll_0 : decode cX12_joyOfAll 0 = .ok (.iconst 0, 1) := by decide +kernel
theorem dX12_joyOfAll_1 : decode cX12_joyOfAll 1 = .ok (.istore_n 1, 1) := by decide +kernel
theorem dX12_joyOfAll_2 : decode cX12_joyOfAll 2 = .ok (.iconst 0, 1) := by decide +kernel
theorem dX12_joyOfAll_3 : decode cX12_joyOfAll 3 = .ok (.istore_n 2, 1) := by decide +kernel
theorem dX12_joyOfAll_4 : decode cX12_joyOfAll 4 = .ok (.iload_n 2, 1) := by decide +kernel
theorem dX12_joyOfAll_5 : decode cX12_joyOfAll 5 = .ok (.bipush 16, 2) := by decide +kernel
theorem dX12_joyOfAll_7 : decode cX12_joyOfAll 7 = .ok (.if_icmp .ge 28, 3) := by decide +kernel
theorem dX12_joyOfAll_10 : decode cX12_joyOfAll 10 = .ok (.aload_n 0, 1) := by decide +kernel
theorem dX12_joyOfAll_11 : decode cX12_joyOfAll 11 = .ok (.iload_n 2, 1) := by decide +kernel
theorem dX12_joyOfAll_12 : decode cX12_joyOfAll 12 = .ok (.invokevirtual 159, 3) := by decide +kernel
theorem dX12_joyOfAll_15 : decode cX12_joyOfAll 15 = .ok (.ifCond .eq 14, 3) := by decide +kernel
theorem dX12_joyOfAll_18 : decode cX12_joyOfAll 18 = .ok (.iload_n 1, 1) := by decide +kernel
theorem dX12_joyOfAll_19 : decode cX12_joyOfAll 19 = .ok (.aload_n 0, 1) := by decide +kernel
theorem dX12_joyOfAll_20 : decode cX12_joyOfAll 20 = .ok (.getfield 7, 3) := by decide +kernel
theorem dX12_joyOfAll_23 : decode cX12_joyOfAll 23 = .ok (.iconst 0, 1) := by decide +kernel
theorem dX12_joyOfAll_24 : decode cX12_joyOfAll 24 = .ok (.iload_n 2, 1) := by decide +kernel
theorem dX12_joyOfAll_25 : decode cX12_joyOfAll 25 = .ok (.iadd, 1) := by decide +kernel
theorem dX12_joyOfAll_26 : decode cX12_joyOfAll 26 = .ok (.iaload, 1) := by decide +kernel
theorem dX12_joyOfAll_27 : decode cX12_joyOfAll 27 = .ok (.iadd, 1) := by decide +kernel
theorem dX12_joyOfAll_28 : decode cX12_joyOfAll 28 = .ok (.istore_n 1, 1) := by decide +kernel
theorem dX12_joyOfAll_29 : decode cX12_joyOfAll 29 = .ok (.iinc 2 1, 3) := by decide +kernel
theorem dX12_joyOfAll_32 : decode cX12_joyOfAll 32 = .ok (.goto (-28), 3) := by decide +kernel
theorem dX12_joyOfAll_35 : decode cX12_joyOfAll 35 = .ok (.iload_n 1, 1) := by decide +kernel
theorem dX12_joyOfAll_36 : decode cX12_joyOfAll 36 = .ok (.ireturn, 1) := by decide +kernel
theorem dX12_orNone_0 : decode cX12_orNone 0 = .ok (.iload_n 0, 1) := by decide +kernel
theorem dX12_orNone_1 : decode cX12_orNone 1 = .ok (.iconst (-1), 1) := by decide +kernel
theorem dX12_orNone_2 : decode cX12_orNone 2 = .ok (.if_icmp .ne 8, 3) := by decide +kernel
theorem dX12_orNone_5 : decode cX12_orNone 5 = .ok (.bipush (-2), 2) := by decide +kernel
theorem dX12_orNone_7 : decode cX12_orNone 7 = .ok (.goto 4, 3) := by decide +kernel
theorem dX12_orNone_10 : decode cX12_orNone 10 = .ok (.iload_n 0, 1) := by decide +kernel
theorem dX12_orNone_11 : decode cX12_orNone 11 = .ok (.ireturn, 1) := by decide +kernel
theorem dX12_tried_0 : decode cX12_tried 0 = .ok (.iload_n 1, 1) := by decide +kernel
theorem dX12_tried_1 : decode cX12_tried 1 = .ok (.iconst 1, 1) := by decide +kernel
theorem dX12_tried_2 : decode cX12_tried 2 = .ok (.bipush 100, 2) := by decide +kernel
theorem dX12_tried_4 : decode cX12_tried 4 = .ok (.invokestatic 134, 3) := by decide +kernel
theorem dX12_tried_7 : decode cX12_tried 7 = .ok (.ifCond .eq 23, 3) := by decide +kernel
theorem dX12_tried_10 : decode cX12_tried 10 = .ok (.iload_n 2, 1) := by decide +kernel
theorem dX12_tried_11 : decode cX12_tried 11 = .ok (.iconst 0, 1) := by decide +kernel
theorem dX12_tried_12 : decode cX12_tried 12 = .ok (.iconst 3, 1) := by decide +kernel
theorem dX12_tried_13 : decode cX12_tried 13 = .ok (.invokestatic 134, 3) := by decide +kernel
theorem dX12_tried_16 : decode cX12_tried 16 = .ok (.ifCond .ne 16, 3) := by decide +kernel
theorem dX12_tried_19 : decode cX12_tried 19 = .ok (.aload_n 0, 1) := by decide +kernel
theorem dX12_tried_20 : decode cX12_tried 20 = .ok (.iload_n 2, 1) := by decide +kernel
theorem dX12_tried_21 : decode cX12_tried 21 = .ok (.bipush 10, 2) := by decide +kernel
theorem dX12_tried_23 : decode cX12_tried 23 = .ok (.isub, 1) := by decide +kernel
theorem dX12_tried_24 : decode cX12_tried 24 = .ok (.invokevirtual 159, 3) := by decide +kernel
theorem dX12_tried_27 : decode cX12_tried 27 = .ok (.ifCond .ne 5, 3) := by decide +kernel
theorem dX12_tried_30 : decode cX12_tried 30 = .ok (.iconst (-1), 1) := by decide +kernel
theorem dX12_tried_31 : decode cX12_tried 31 = .ok (.ireturn, 1) := by decide +kernel
theorem dX12_tried_32 : decode cX12_tried 32 = .ok (.aload_n 0, 1) := by decide +kernel
theorem dX12_tried_33 : decode cX12_tried 33 = .ok (.getfield 7, 3) := by decide +kernel
theorem dX12_tried_36 : decode cX12_tried 36 = .ok (.aload_n 0, 1) := by decide +kernel
theorem dX12_tried_37 : decode cX12_tried 37 = .ok (.getfield 13, 3) := by decide +kernel
theorem dX12_tried_40 : decode cX12_tried 40 = .ok (.invokestatic 352, 3) := by decide +kernel
theorem dX12_tried_43 : decode cX12_tried 43 = .ok (.aload_n 0, 1) := by decide +kernel
theorem dX12_tried_44 : decode cX12_tried 44 = .ok (.iload_n 1, 1) := by decide +kernel
theorem dX12_tried_45 : decode cX12_tried 45 = .ok (.invokevirtual 349, 3) := by decide +kernel
theorem dX12_tried_48 : decode cX12_tried 48 = .ok (.iload_n 2, 1) := by decide +kernel
theorem dX12_tried_49 : decode cX12_tried 49 = .ok (.tableswitch 72 0 3 #[31, 39, 53, 64], 31) := by decide +kernel
theorem dX12_tried_80 : decode cX12_tried 80 = .ok (.aload_n 0, 1) := by decide +kernel
theorem dX12_tried_81 : decode cX12_tried 81 = .ok (.getfield 336, 3) := by decide +kernel
theorem dX12_tried_84 : decode cX12_tried 84 = .ok (.istore_n 3, 1) := by decide +kernel
theorem dX12_tried_85 : decode cX12_tried 85 = .ok (.goto 48, 3) := by decide +kernel
theorem dX12_tried_88 : decode cX12_tried 88 = .ok (.aload_n 0, 1) := by decide +kernel
theorem dX12_tried_89 : decode cX12_tried 89 = .ok (.getfield 7, 3) := by decide +kernel
theorem dX12_tried_92 : decode cX12_tried 92 = .ok (.bipush 16, 2) := by decide +kernel
theorem dX12_tried_94 : decode cX12_tried 94 = .ok (.iaload, 1) := by decide +kernel
theorem dX12_tried_95 : decode cX12_tried 95 = .ok (.invokestatic 356, 3) := by decide +kernel
theorem dX12_tried_98 : decode cX12_tried 98 = .ok (.istore_n 3, 1) := by decide +kernel
theorem dX12_tried_99 : decode cX12_tried 99 = .ok (.goto 34, 3) := by decide +kernel
theorem dX12_tried_102 : decode cX12_tried 102 = .ok (.aload_n 0, 1) := by decide +kernel
theorem dX12_tried_103 : decode cX12_tried 103 = .ok (.getfield 7, 3) := by decide +kernel
theorem dX12_tried_106 : decode cX12_tried 106 = .ok (.bipush 17, 2) := by decide +kernel
theorem dX12_tried_108 : decode cX12_tried 108 = .ok (.iaload, 1) := by decide +kernel
theorem dX12_tried_109 : decode cX12_tried 109 = .ok (.istore_n 3, 1) := by decide +kernel
theorem dX12_tried_110 : decode cX12_tried 110 = .ok (.goto 23, 3) := by decide +kernel
theorem dX12_tried_113 : decode cX12_tried 113 = .ok (.aload_n 0, 1) := by decide +kernel
theorem dX12_tried_114 : decode cX12_tried 114 = .ok (.invokevirtual 359, 3) := by decide +kernel
theorem dX12_tried_117 : decode cX12_tried 117 = .ok (.istore_n 3, 1) := by decide +kernel
theorem dX12_tried_118 : decode cX12_tried 118 = .ok (.goto 15, 3) := by decide +kernel
theorem dX12_tried_121 : decode cX12_tried 121 = .ok (.aload_n 0, 1) := by decide +kernel
theorem dX12_tried_122 : decode cX12_tried 122 = .ok (.getfield 7, 3) := by decide +kernel
theorem dX12_tried_125 : decode cX12_tried 125 = .ok (.iconst 0, 1) := by decide +kernel
theorem dX12_tried_126 : decode cX12_tried 126 = .ok (.iload_n 2, 1) := by decide +kernel
theorem dX12_tried_127 : decode cX12_tried 127 = .ok (.iadd, 1) := by decide +kernel
theorem dX12_tried_128 : decode cX12_tried 128 = .ok (.bipush 10, 2) := by decide +kernel
theorem dX12_tried_130 : decode cX12_tried 130 = .ok (.isub, 1) := by decide +kernel
theorem dX12_tried_131 : decode cX12_tried 131 = .ok (.iaload, 1) := by decide +kernel
theorem dX12_tried_132 : decode cX12_tried 132 = .ok (.istore_n 3, 1) := by decide +kernel
theorem dX12_tried_133 : decode cX12_tried 133 = .ok (.aload_n 0, 1) := by decide +kernel
theorem dX12_tried_134 : decode cX12_tried 134 = .ok (.getfield 13, 3) := by decide +kernel
theorem dX12_tried_137 : decode cX12_tried 137 = .ok (.aload_n 0, 1) := by decide +kernel
theorem dX12_tried_138 : decode cX12_tried 138 = .ok (.getfield 7, 3) := by decide +kernel
theorem dX12_tried_141 : decode cX12_tried 141 = .ok (.invokestatic 352, 3) := by decide +kernel
theorem dX12_tried_144 : decode cX12_tried 144 = .ok (.iload_n 3, 1) := by decide +kernel
theorem dX12_tried_145 : decode cX12_tried 145 = .ok (.ireturn, 1) := by decide +kernel
theorem dX12_wayOf_0 : decode cX12_wayOf 0 = .ok (.iconst 0, 1) := by decide +kernel
theorem dX12_wayOf_1 : decode cX12_wayOf 1 = .ok (.istore_n 2, 1) := by decide +kernel
theorem dX12_wayOf_2 : decode cX12_wayOf 2 = .ok (.iconst (-1), 1) := by decide +kernel
theorem dX12_wayOf_3 : decode cX12_wayOf 3 = .ok (.istore_n 3, 1) := by decide +kernel
theorem dX12_wayOf_4 : decode cX12_wayOf 4 = .ok (.iconst (-1), 1) := by decide +kernel
theorem dX12_wayOf_5 : decode cX12_wayOf 5 = .ok (.istore 4, 2) := by decide +kernel
theorem dX12_wayOf_7 : decode cX12_wayOf 7 = .ok (.iconst 0, 1) := by decide +kernel
theorem dX12_wayOf_8 : decode cX12_wayOf 8 = .ok (.istore 5, 2) := by decide +kernel
theorem dX12_wayOf_10 : decode cX12_wayOf 10 = .ok (.iload 5, 2) := by decide +kernel
theorem dX12_wayOf_12 : decode cX12_wayOf 12 = .ok (.bipush 12, 2) := by decide +kernel
theorem dX12_wayOf_14 : decode cX12_wayOf 14 = .ok (.if_icmp .ge 66, 3) := by decide +kernel
theorem dX12_wayOf_17 : decode cX12_wayOf 17 = .ok (.aload_n 0, 1) := by decide +kernel
theorem dX12_wayOf_18 : decode cX12_wayOf 18 = .ok (.getfield 19, 3) := by decide +kernel
theorem dX12_wayOf_21 : decode cX12_wayOf 21 = .ok (.iload 5, 2) := by decide +kernel
theorem dX12_wayOf_23 : decode cX12_wayOf 23 = .ok (.iaload, 1) := by decide +kernel
theorem dX12_wayOf_24 : decode cX12_wayOf 24 = .ok (.iconst (-1), 1) := by decide +kernel
theorem dX12_wayOf_25 : decode cX12_wayOf 25 = .ok (.if_icmp .ne 6, 3) := by decide +kernel
theorem dX12_wayOf_28 : decode cX12_wayOf 28 = .ok (.goto 46, 3) := by decide +kernel
theorem dX12_wayOf_31 : decode cX12_wayOf 31 = .ok (.iload_n 3, 1) := by decide +kernel
theorem dX12_wayOf_32 : decode cX12_wayOf 32 = .ok (.iconst (-1), 1) := by decide +kernel
theorem dX12_wayOf_33 : decode cX12_wayOf 33 = .ok (.if_icmp .eq 18, 3) := by decide +kernel
theorem dX12_wayOf_36 : decode cX12_wayOf 36 = .ok (.iload_n 2, 1) := by decide +kernel
theorem dX12_wayOf_37 : decode cX12_wayOf 37 = .ok (.aload_n 0, 1) := by decide +kernel
theorem dX12_wayOf_38 : decode cX12_wayOf 38 = .ok (.getfield 19, 3) := by decide +kernel
theorem dX12_wayOf_41 : decode cX12_wayOf 41 = .ok (.iload 5, 2) := by decide +kernel
theorem dX12_wayOf_43 : decode cX12_wayOf 43 = .ok (.iaload, 1) := by decide +kernel
theorem dX12_wayOf_44 : decode cX12_wayOf 44 = .ok (.iload_n 3, 1) := by decide +kernel
theorem dX12_wayOf_45 : decode cX12_wayOf 45 = .ok (.isub, 1) := by decide +kernel
theorem dX12_wayOf_46 : decode cX12_wayOf 46 = .ok (.invokestatic 317, 3) := by decide +kernel
theorem dX12_wayOf_49 : decode cX12_wayOf 49 = .ok (.iadd, 1) := by decide +kernel
theorem dX12_wayOf_50 : decode cX12_wayOf 50 = .ok (.istore_n 2, 1) := by decide +kernel
theorem dX12_wayOf_51 : decode cX12_wayOf 51 = .ok (.iload 4, 2) := by decide +kernel
theorem dX12_wayOf_53 : decode cX12_wayOf 53 = .ok (.iconst (-1), 1) := by decide +kernel
theorem dX12_wayOf_54 : decode cX12_wayOf 54 = .ok (.if_icmp .ne 12, 3) := by decide +kernel
theorem dX12_wayOf_57 : decode cX12_wayOf 57 = .ok (.aload_n 0, 1) := by decide +kernel
theorem dX12_wayOf_58 : decode cX12_wayOf 58 = .ok (.getfield 19, 3) := by decide +kernel
theorem dX12_wayOf_61 : decode cX12_wayOf 61 = .ok (.iload 5, 2) := by decide +kernel
theorem dX12_wayOf_63 : decode cX12_wayOf 63 = .ok (.iaload, 1) := by decide +kernel
theorem dX12_wayOf_64 : decode cX12_wayOf 64 = .ok (.istore 4, 2) := by decide +kernel
theorem dX12_wayOf_66 : decode cX12_wayOf 66 = .ok (.aload_n 0, 1) := by decide +kernel
theorem dX12_wayOf_67 : decode cX12_wayOf 67 = .ok (.getfield 19, 3) := by decide +kernel
theorem dX12_wayOf_70 : decode cX12_wayOf 70 = .ok (.iload 5, 2) := by decide +kernel
theorem dX12_wayOf_72 : decode cX12_wayOf 72 = .ok (.iaload, 1) := by decide +kernel
theorem dX12_wayOf_73 : decode cX12_wayOf 73 = .ok (.istore_n 3, 1) := by decide +kernel
theorem dX12_wayOf_74 : decode cX12_wayOf 74 = .ok (.iinc 5 1, 3) := by decide +kernel
theorem dX12_wayOf_77 : decode cX12_wayOf 77 = .ok (.goto (-67), 3) := by decide +kernel
theorem dX12_wayOf_80 : decode cX12_wayOf 80 = .ok (.iload_n 1, 1) := by decide +kernel
theorem dX12_wayOf_81 : decode cX12_wayOf 81 = .ok (.ifCond .eq 21, 3) := by decide +kernel
theorem dX12_wayOf_84 : decode cX12_wayOf 84 = .ok (.iload 4, 2) := by decide +kernel
theorem dX12_wayOf_86 : decode cX12_wayOf 86 = .ok (.iconst (-1), 1) := by decide +kernel
theorem dX12_wayOf_87 : decode cX12_wayOf 87 = .ok (.if_icmp .eq 15, 3) := by decide +kernel
theorem dX12_wayOf_90 : decode cX12_wayOf 90 = .ok (.iload_n 2, 1) := by decide +kernel
theorem dX12_wayOf_91 : decode cX12_wayOf 91 = .ok (.iload_n 3, 1) := by decide +kernel
theorem dX12_wayOf_92 : decode cX12_wayOf 92 = .ok (.iload 4, 2) := by decide +kernel
theorem dX12_wayOf_94 : decode cX12_wayOf 94 = .ok (.isub, 1) := by decide +kernel
theorem dX12_wayOf_95 : decode cX12_wayOf 95 = .ok (.invokestatic 317, 3) := by decide +kernel
theorem dX12_wayOf_98 : decode cX12_wayOf 98 = .ok (.iadd, 1) := by decide +kernel
theorem dX12_wayOf_99 : decode cX12_wayOf 99 = .ok (.goto 4, 3) := by decide +kernel
theorem dX12_wayOf_102 : decode cX12_wayOf 102 = .ok (.iload_n 2, 1) := by decide +kernel
theorem dX12_wayOf_103 : decode cX12_wayOf 103 = .ok (.ireturn, 1) := by decide +kernel
theorem dX12_turnsOf_0 : decode cX12_turnsOf 0 = .ok (.iconst 0, 1) := by decide +kernel
theorem dX12_turnsOf_1 : decode cX12_turnsOf 1 = .ok (.istore_n 2, 1) := by decide +kernel
theorem dX12_turnsOf_2 : decode cX12_turnsOf 2 = .ok (.iconst 0, 1) := by decide +kernel
theorem dX12_turnsOf_3 : decode cX12_turnsOf 3 = .ok (.istore_n 3, 1) := by decide +kernel
theorem dX12_turnsOf_4 : decode cX12_turnsOf 4 = .ok (.iload_n 3, 1) := by decide +kernel
theorem dX12_turnsOf_5 : decode cX12_turnsOf 5 = .ok (.bipush 12, 2) := by decide +kernel
theorem dX12_turnsOf_7 : decode cX12_turnsOf 7 = .ok (.if_icmp .ge 23, 3) := by decide +kernel
theorem dX12_turnsOf_10 : decode cX12_turnsOf 10 = .ok (.aload_n 0, 1) := by decide +kernel
theorem dX12_turnsOf_11 : decode cX12_turnsOf 11 = .ok (.getfield 19, 3) := by decide +kernel
theorem dX12_turnsOf_14 : decode cX12_turnsOf 14 = .ok (.iload_n 3, 1) := by decide +kernel
theorem dX12_turnsOf_15 : decode cX12_turnsOf 15 = .ok (.iaload, 1) := by decide +kernel
theorem dX12_turnsOf_16 : decode cX12_turnsOf 16 = .ok (.iload_n 1, 1) := by decide +kernel
theorem dX12_turnsOf_17 : decode cX12_turnsOf 17 = .ok (.if_icmp .ne 7, 3) := by decide +kernel
theorem dX12_turnsOf_20 : decode cX12_turnsOf 20 = .ok (.iload_n 2, 1) := by decide +kernel
theorem dX12_turnsOf_21 : decode cX12_turnsOf 21 = .ok (.iconst 1, 1) := by decide +kernel
theorem dX12_turnsOf_22 : decode cX12_turnsOf 22 = .ok (.iadd, 1) := by decide +kernel
theorem dX12_turnsOf_23 : decode cX12_turnsOf 23 = .ok (.istore_n 2, 1) := by decide +kernel
theorem dX12_turnsOf_24 : decode cX12_turnsOf 24 = .ok (.iinc 3 1, 3) := by decide +kernel
theorem dX12_turnsOf_27 : decode cX12_turnsOf 27 = .ok (.goto (-23), 3) := by decide +kernel
theorem dX12_turnsOf_30 : decode cX12_turnsOf 30 = .ok (.iload_n 2, 1) := by decide +kernel
theorem dX12_turnsOf_31 : decode cX12_turnsOf 31 = .ok (.ireturn, 1) := by decide +kernel
theorem dX12_longestRow_0 : decode cX12_longestRow 0 = .ok (.iconst 0, 1) := by decide +kernel
theorem dX12_longestRow_1 : decode cX12_longestRow 1 = .ok (.istore_n 1, 1) := by decide +kernel
theorem dX12_longestRow_2 : decode cX12_longestRow 2 = .ok (.iconst 0, 1) := by decide +kernel
theorem dX12_longestRow_3 : decode cX12_longestRow 3 = .ok (.istore_n 2, 1) := by decide +kernel
theorem dX12_longestRow_4 : decode cX12_longestRow 4 = .ok (.iconst 0, 1) := by decide +kernel
theorem dX12_longestRow_5 : decode cX12_longestRow 5 = .ok (.istore_n 3, 1) := by decide +kernel
theorem dX12_longestRow_6 : decode cX12_longestRow 6 = .ok (.iload_n 3, 1) := by decide +kernel
theorem dX12_longestRow_7 : decode cX12_longestRow 7 = .ok (.bipush 24, 2) := by decide +kernel
theorem dX12_longestRow_9 : decode cX12_longestRow 9 = .ok (.if_icmp .ge 39, 3) := by decide +kernel
theorem dX12_longestRow_12 : decode cX12_longestRow 12 = .ok (.iload_n 0, 1) := by decide +kernel
theorem dX12_longestRow_13 : decode cX12_longestRow 13 = .ok (.iload_n 3, 1) := by decide +kernel
theorem dX12_longestRow_14 : decode cX12_longestRow 14 = .ok (.bipush 12, 2) := by decide +kernel
theorem dX12_longestRow_16 : decode cX12_longestRow 16 = .ok (.irem, 1) := by decide +kernel
theorem dX12_longestRow_17 : decode cX12_longestRow 17 = .ok (.invokestatic 130, 3) := by decide +kernel
theorem dX12_longestRow_20 : decode cX12_longestRow 20 = .ok (.ifCond .eq 14, 3) := by decide +kernel
theorem dX12_longestRow_23 : decode cX12_longestRow 23 = .ok (.bipush 12, 2) := by decide +kernel
theorem dX12_longestRow_25 : decode cX12_longestRow 25 = .ok (.iload_n 2, 1) := by decide +kernel
theorem dX12_longestRow_26 : decode cX12_longestRow 26 = .ok (.iconst 1, 1) := by decide +kernel
theorem dX12_longestRow_27 : decode cX12_longestRow 27 = .ok (.iadd, 1) := by decide +kernel
theorem dX12_longestRow_28 : decode cX12_longestRow 28 = .ok (.invokestatic 333, 3) := by decide +kernel
theorem dX12_longestRow_31 : decode cX12_longestRow 31 = .ok (.goto 4, 3) := by decide +kernel
theorem dX12_longestRow_34 : decode cX12_longestRow 34 = .ok (.iconst 0, 1) := by decide +kernel
theorem dX12_longestRow_35 : decode cX12_longestRow 35 = .ok (.istore_n 2, 1) := by decide +kernel
theorem dX12_longestRow_36 : decode cX12_longestRow 36 = .ok (.iload_n 1, 1) := by decide +kernel
theorem dX12_longestRow_37 : decode cX12_longestRow 37 = .ok (.iload_n 2, 1) := by decide +kernel
theorem dX12_longestRow_38 : decode cX12_longestRow 38 = .ok (.invokestatic 362, 3) := by decide +kernel
theorem dX12_longestRow_41 : decode cX12_longestRow 41 = .ok (.istore_n 1, 1) := by decide +kernel
theorem dX12_longestRow_42 : decode cX12_longestRow 42 = .ok (.iinc 3 1, 3) := by decide +kernel
theorem dX12_longestRow_45 : decode cX12_longestRow 45 = .ok (.goto (-39), 3) := by decide +kernel
theorem dX12_longestRow_48 : decode cX12_longestRow 48 = .ok (.iload_n 1, 1) := by decide +kernel
theorem dX12_longestRow_49 : decode cX12_longestRow 49 = .ok (.ireturn, 1) := by decide +kernel
theorem dX12_darkOf_0 : decode cX12_darkOf 0 = .ok (.iconst 0, 1) := by decide +kernel
theorem dX12_darkOf_1 : decode cX12_darkOf 1 = .ok (.istore_n 2, 1) := by decide +kernel
theorem dX12_darkOf_2 : decode cX12_darkOf 2 = .ok (.iconst 0, 1) := by decide +kernel
theorem dX12_darkOf_3 : decode cX12_darkOf 3 = .ok (.istore_n 3, 1) := by decide +kernel
theorem dX12_darkOf_4 : decode cX12_darkOf 4 = .ok (.iload_n 3, 1) := by decide +kernel
theorem dX12_darkOf_5 : decode cX12_darkOf 5 = .ok (.bipush 12, 2) := by decide +kernel
theorem dX12_darkOf_7 : decode cX12_darkOf 7 = .ok (.if_icmp .ge 25, 3) := by decide +kernel
theorem dX12_darkOf_10 : decode cX12_darkOf 10 = .ok (.aload_n 0, 1) := by decide +kernel
theorem dX12_darkOf_11 : decode cX12_darkOf 11 = .ok (.getfield 19, 3) := by decide +kernel
theorem dX12_darkOf_14 : decode cX12_darkOf 14 = .ok (.iload_n 3, 1) := by decide +kernel
theorem dX12_darkOf_15 : decode cX12_darkOf 15 = .ok (.iaload, 1) := by decide +kernel
theorem dX12_darkOf_16 : decode cX12_darkOf 16 = .ok (.iload_n 1, 1) := by decide +kernel
theorem dX12_darkOf_17 : decode cX12_darkOf 17 = .ok (.if_icmp .eq 9, 3) := by decide +kernel
theorem dX12_darkOf_20 : decode cX12_darkOf 20 = .ok (.iload_n 2, 1) := by decide +kernel
theorem dX12_darkOf_21 : decode cX12_darkOf 21 = .ok (.iconst 1, 1) := by decide +kernel
theorem dX12_darkOf_22 : decode cX12_darkOf 22 = .ok (.iload_n 3, 1) := by decide +kernel
theorem dX12_darkOf_23 : decode cX12_darkOf 23 = .ok (.ishl, 1) := by decide +kernel
theorem dX12_darkOf_24 : decode cX12_darkOf 24 = .ok (.ior, 1) := by decide +kernel
theorem dX12_darkOf_25 : decode cX12_darkOf 25 = .ok (.istore_n 2, 1) := by decide +kernel
theorem dX12_darkOf_26 : decode cX12_darkOf 26 = .ok (.iinc 3 1, 3) := by decide +kernel
theorem dX12_darkOf_29 : decode cX12_darkOf 29 = .ok (.goto (-25), 3) := by decide +kernel
theorem dX12_darkOf_32 : decode cX12_darkOf 32 = .ok (.iload_n 2, 1) := by decide +kernel
theorem dX12_darkOf_33 : decode cX12_darkOf 33 = .ok (.invokestatic 365, 3) := by decide +kernel
theorem dX12_darkOf_36 : decode cX12_darkOf 36 = .ok (.ireturn, 1) := by decide +kernel
theorem dX12_lightOf_0 : decode cX12_lightOf 0 = .ok (.iconst 0, 1) := by decide +kernel
theorem dX12_lightOf_1 : decode cX12_lightOf 1 = .ok (.istore_n 2, 1) := by decide +kernel
theorem dX12_lightOf_2 : decode cX12_lightOf 2 = .ok (.iconst 0, 1) := by decide +kernel
theorem dX12_lightOf_3 : decode cX12_lightOf 3 = .ok (.istore_n 3, 1) := by decide +kernel
theorem dX12_lightOf_4 : decode cX12_lightOf 4 = .ok (.iload_n 3, 1) := by decide +kernel
theorem dX12_lightOf_5 : decode cX12_lightOf 5 = .ok (.bipush 12, 2) := by decide +kernel
theorem dX12_lightOf_7 : decode cX12_lightOf 7 = .ok (.if_icmp .ge 24, 3) := by decide +kernel
theorem dX12_lightOf_10 : decode cX12_lightOf 10 = .ok (.aload_n 0, 1) := by decide +kernel
theorem dX12_lightOf_11 : decode cX12_lightOf 11 = .ok (.iload_n 1, 1) := by decide +kernel
theorem dX12_lightOf_12 : decode cX12_lightOf 12 = .ok (.iload_n 3, 1) := by decide +kernel
theorem dX12_lightOf_13 : decode cX12_lightOf 13 = .ok (.invokevirtual 152, 3) := by decide +kernel
theorem dX12_lightOf_16 : decode cX12_lightOf 16 = .ok (.ifCond .eq 9, 3) := by decide +kernel
theorem dX12_lightOf_19 : decode cX12_lightOf 19 = .ok (.iload_n 2, 1) := by decide +kernel
theorem dX12_lightOf_20 : decode cX12_lightOf 20 = .ok (.iconst 1, 1) := by decide +kernel
theorem dX12_lightOf_21 : decode cX12_lightOf 21 = .ok (.iload_n 3, 1) := by decide +kernel
theorem dX12_lightOf_22 : decode cX12_lightOf 22 = .ok (.ishl, 1) := by decide +kernel
theorem dX12_lightOf_23 : decode cX12_lightOf 23 = .ok (.ior, 1) := by decide +kernel
theorem dX12_lightOf_24 : decode cX12_lightOf 24 = .ok (.istore_n 2, 1) := by decide +kernel
theorem dX12_lightOf_25 : decode cX12_lightOf 25 = .ok (.iinc 3 1, 3) := by decide +kernel
theorem dX12_lightOf_28 : decode cX12_lightOf 28 = .ok (.goto (-24), 3) := by decide +kernel
theorem dX12_lightOf_31 : decode cX12_lightOf 31 = .ok (.iload_n 2, 1) := by decide +kernel
theorem dX12_lightOf_32 : decode cX12_lightOf 32 = .ok (.ireturn, 1) := by decide +kernel
theorem dX12_houseIs_0 : decode cX12_houseIs 0 = .ok (.aload_n 0, 1) := by decide +kernel
theorem dX12_houseIs_1 : decode cX12_houseIs 1 = .ok (.iload_n 1, 1) := by decide +kernel
theorem dX12_houseIs_2 : decode cX12_houseIs 2 = .ok (.invokevirtual 159, 3) := by decide +kernel
theorem dX12_houseIs_5 : decode cX12_houseIs 5 = .ok (.ifCond .ne 5, 3) := by decide +kernel
theorem dX12_houseIs_8 : decode cX12_houseIs 8 = .ok (.iconst (-1), 1) := by decide +kernel
theorem dX12_houseIs_9 : decode cX12_houseIs 9 = .ok (.ireturn, 1) := by decide +kernel
theorem dX12_houseIs_10 : decode cX12_houseIs 10 = .ok (.iload_n 2, 1) := by decide +kernel
theorem dX12_houseIs_11 : decode cX12_houseIs 11 = .ok (.tableswitch 67 0 4 #[33, 40, 49, 55, 61], 33) := by decide +kernel
theorem dX12_houseIs_44 : decode cX12_houseIs 44 = .ok (.aload_n 0, 1) := by decide +kernel
theorem dX12_houseIs_45 : decode cX12_houseIs 45 = .ok (.getfield 22, 3) := by decide +kernel
theorem dX12_houseIs_48 : decode cX12_houseIs 48 = .ok (.iload_n 1, 1) := by decide +kernel
theorem dX12_houseIs_49 : decode cX12_houseIs 49 = .ok (.iaload, 1) := by decide +kernel
theorem dX12_houseIs_50 : decode cX12_houseIs 50 = .ok (.ireturn, 1) := by decide +kernel
theorem dX12_houseIs_51 : decode cX12_houseIs 51 = .ok (.aload_n 0, 1) := by decide +kernel
theorem dX12_houseIs_52 : decode cX12_houseIs 52 = .ok (.getfield 7, 3) := by decide +kernel
theorem dX12_houseIs_55 : decode cX12_houseIs 55 = .ok (.iconst 0, 1) := by decide +kernel
theorem dX12_houseIs_56 : decode cX12_houseIs 56 = .ok (.iload_n 1, 1) := by decide +kernel
theorem dX12_houseIs_57 : decode cX12_houseIs 57 = .ok (.iadd, 1) := by decide +kernel
theorem dX12_houseIs_58 : decode cX12_houseIs 58 = .ok (.iaload, 1) := by decide +kernel
theorem dX12_houseIs_59 : decode cX12_houseIs 59 = .ok (.ireturn, 1) := by decide +kernel
theorem dX12_houseIs_60 : decode cX12_houseIs 60 = .ok (.aload_n 0, 1) := by decide +kernel
theorem dX12_houseIs_61 : decode cX12_houseIs 61 = .ok (.iload_n 1, 1) := by decide +kernel
theorem dX12_houseIs_62 : decode cX12_houseIs 62 = .ok (.invokevirtual 368, 3) := by decide +kernel
theorem dX12_houseIs_65 : decode cX12_houseIs 65 = .ok (.ireturn, 1) := by decide +kernel
theorem dX12_houseIs_66 : decode cX12_houseIs 66 = .ok (.aload_n 0, 1) := by decide +kernel
theorem dX12_houseIs_67 : decode cX12_houseIs 67 = .ok (.iload_n 1, 1) := by decide +kernel
theorem dX12_houseIs_68 : decode cX12_houseIs 68 = .ok (.invokevirtual 371, 3) := by decide +kernel
theorem dX12_houseIs_71 : decode cX12_houseIs 71 = .ok (.ireturn, 1) := by decide +kernel
theorem dX12_houseIs_72 : decode cX12_houseIs 72 = .ok (.aload_n 0, 1) := by decide +kernel
theorem dX12_houseIs_73 : decode cX12_houseIs 73 = .ok (.iload_n 1, 1) := by decide +kernel
theorem dX12_houseIs_74 : decode cX12_houseIs 74 = .ok (.invokevirtual 374, 3) := by decide +kernel
theorem dX12_houseIs_77 : decode cX12_houseIs 77 = .ok (.ireturn, 1) := by decide +kernel
theorem dX12_houseIs_78 : decode cX12_houseIs 78 = .ok (.iconst (-1), 1) := by decide +kernel
theorem dX12_houseIs_79 : decode cX12_houseIs 79 = .ok (.ireturn, 1) := by decide +kernel
theorem dX12_seenByRota_0 : decode cX12_seenByRota 0 = .ok (.iconst 0, 1) := by decide +kernel
theorem dX12_seenByRota_1 : decode cX12_seenByRota 1 = .ok (.istore_n 1, 1) := by decide +kernel
theorem dX12_seenByRota_2 : decode cX12_seenByRota 2 = .ok (.iconst 0, 1) := by decide +kernel
theorem dX12_seenByRota_3 : decode cX12_seenByRota 3 = .ok (.istore_n 2, 1) := by decide +kernel
theorem dX12_seenByRota_4 : decode cX12_seenByRota 4 = .ok (.iload_n 2, 1) := by decide +kernel
theorem dX12_seenByRota_5 : decode cX12_seenByRota 5 = .ok (.bipush 12, 2) := by decide +kernel
theorem dX12_seenByRota_7 : decode cX12_seenByRota 7 = .ok (.if_icmp .ge 33, 3) := by decide +kernel
theorem dX12_seenByRota_10 : decode cX12_seenByRota 10 = .ok (.aload_n 0, 1) := by decide +kernel
theorem dX12_seenByRota_11 : decode cX12_seenByRota 11 = .ok (.getfield 19, 3) := by decide +kernel
theorem dX12_seenByRota_14 : decode cX12_seenByRota 14 = .ok (.iload_n 2, 1) := by decide +kernel
theorem dX12_seenByRota_15 : decode cX12_seenByRota 15 = .ok (.iaload, 1) := by decide +kernel
theorem dX12_seenByRota_16 : decode cX12_seenByRota 16 = .ok (.iconst (-1), 1) := by decide +kernel
theorem dX12_seenByRota_17 : decode cX12_seenByRota 17 = .ok (.if_icmp .eq 17, 3) := by decide +kernel
theorem dX12_seenByRota_20 : decode cX12_seenByRota 20 = .ok (.iload_n 1, 1) := by decide +kernel
theorem dX12_seenByRota_21 : decode cX12_seenByRota 21 = .ok (.aload_n 0, 1) := by decide +kernel
theorem dX12_seenByRota_22 : decode cX12_seenByRota 22 = .ok (.aload_n 0, 1) := by decide +kernel
theorem dX12_seenByRota_23 : decode cX12_seenByRota 23 = .ok (.getfield 19, 3) := by decide +kernel
theorem dX12_seenByRota_26 : decode cX12_seenByRota 26 = .ok (.iload_n 2, 1) := by decide +kernel
theorem dX12_seenByRota_27 : decode cX12_seenByRota 27 = .ok (.iaload, 1) := by decide +kernel
theorem dX12_seenByRota_28 : decode cX12_seenByRota 28 = .ok (.iload_n 2, 1) := by decide +kernel
theorem dX12_seenByRota_29 : decode cX12_seenByRota 29 = .ok (.invokevirtual 152, 3) := by decide +kernel
theorem dX12_seenByRota_32 : decode cX12_seenByRota 32 = .ok (.ior, 1) := by decide +kernel
theorem dX12_seenByRota_33 : decode cX12_seenByRota 33 = .ok (.istore_n 1, 1) := by decide +kernel
theorem dX12_seenByRota_34 : decode cX12_seenByRota 34 = .ok (.iinc 2 1, 3) := by decide +kernel
theorem dX12_seenByRota_37 : decode cX12_seenByRota 37 = .ok (.goto (-33), 3) := by decide +kernel
theorem dX12_seenByRota_40 : decode cX12_seenByRota 40 = .ok (.iload_n 1, 1) := by decide +kernel
theorem dX12_seenByRota_41 : decode cX12_seenByRota 41 = .ok (.ireturn, 1) := by decide +kernel
theorem dX12_rotaIs_0 : decode cX12_rotaIs 0 = .ok (.iload_n 1, 1) := by decide +kernel
theorem dX12_rotaIs_1 : decode cX12_rotaIs 1 = .ok (.invokestatic 156, 3) := by decide +kernel
theorem dX12_rotaIs_4 : decode cX12_rotaIs 4 = .ok (.ifCond .eq 13, 3) := by decide +kernel
theorem dX12_rotaIs_7 : decode cX12_rotaIs 7 = .ok (.aload_n 0, 1) := by decide +kernel
theorem dX12_rotaIs_8 : decode cX12_rotaIs 8 = .ok (.getfield 19, 3) := by decide +kernel
theorem dX12_rotaIs_11 : decode cX12_rotaIs 11 = .ok (.iload_n 1, 1) := by decide +kernel
theorem dX12_rotaIs_12 : decode cX12_rotaIs 12 = .ok (.iaload, 1) := by decide +kernel
theorem dX12_rotaIs_13 : decode cX12_rotaIs 13 = .ok (.invokestatic 356, 3) := by decide +kernel
theorem dX12_rotaIs_16 : decode cX12_rotaIs 16 = .ok (.ireturn, 1) := by decide +kernel
theorem dX12_rotaIs_17 : decode cX12_rotaIs 17 = .ok (.iload_n 1, 1) := by decide +kernel
theorem dX12_rotaIs_18 : decode cX12_rotaIs 18 = .ok (.tableswitch 43 100 102 #[26, 32, 38], 26) := by decide +kernel
theorem dX12_rotaIs_44 : decode cX12_rotaIs 44 = .ok (.aload_n 0, 1) := by decide +kernel
theorem dX12_rotaIs_45 : decode cX12_rotaIs 45 = .ok (.iconst 0, 1) := by decide +kernel
theorem dX12_rotaIs_46 : decode cX12_rotaIs 46 = .ok (.invokevirtual 377, 3) := by decide +kernel
theorem dX12_rotaIs_49 : decode cX12_rotaIs 49 = .ok (.ireturn, 1) := by decide +kernel
theorem dX12_rotaIs_50 : decode cX12_rotaIs 50 = .ok (.aload_n 0, 1) := by decide +kernel
theorem dX12_rotaIs_51 : decode cX12_rotaIs 51 = .ok (.iconst 1, 1) := by decide +kernel
theorem dX12_rotaIs_52 : decode cX12_rotaIs 52 = .ok (.invokevirtual 377, 3) := by decide +kernel
theorem dX12_rotaIs_55 : decode cX12_rotaIs 55 = .ok (.ireturn, 1) := by decide +kernel
theorem dX12_rotaIs_56 : decode cX12_rotaIs 56 = .ok (.aload_n 0, 1) := by decide +kernel
theorem dX12_rotaIs_57 : decode cX12_rotaIs 57 = .ok (.invokevirtual 381, 3) := by decide +kernel
theorem dX12_rotaIs_60 : decode cX12_rotaIs 60 = .ok (.ireturn, 1) := by decide +kernel
theorem dX12_rotaIs_61 : decode cX12_rotaIs 61 = .ok (.iconst (-1), 1) := by decide +kernel
theorem dX12_rotaIs_62 : decode cX12_rotaIs 62 = .ok (.ireturn, 1) := by decide +kernel
theorem dX12_next_0 : decode cX12_next 0 = .ok (.aload_n 0, 1) := by decide +kernel
theorem dX12_next_1 : decode cX12_next 1 = .ok (.iload_n 1, 1) := by decide +kernel
theorem dX12_next_2 : decode cX12_next 2 = .ok (.invokevirtual 159, 3) := by decide +kernel
theorem dX12_next_5 : decode cX12_next 5 = .ok (.ifCond .eq 18, 3) := by decide +kernel
theorem dX12_next_8 : decode cX12_next 8 = .ok (.aload_n 0, 1) := by decide +kernel
theorem dX12_next_9 : decode cX12_next 9 = .ok (.iload_n 2, 1) := by decide +kernel
theorem dX12_next_10 : decode cX12_next 10 = .ok (.invokevirtual 145, 3) := by decide +kernel
theorem dX12_next_13 : decode cX12_next 13 = .ok (.ifCond .eq 10, 3) := by decide +kernel
theorem dX12_next_16 : decode cX12_next 16 = .ok (.iload_n 3, 1) := by decide +kernel
theorem dX12_next_17 : decode cX12_next 17 = .ok (.invokestatic 156, 3) := by decide +kernel
theorem dX12_next_20 : decode cX12_next 20 = .ok (.ifCond .ne 5, 3) := by decide +kernel
theorem dX12_next_23 : decode cX12_next 23 = .ok (.iconst (-1), 1) := by decide +kernel
theorem dX12_next_24 : decode cX12_next 24 = .ok (.ireturn, 1) := by decide +kernel
theorem dX12_next_25 : decode cX12_next 25 = .ok (.iconst 0, 1) := by decide +kernel
theorem dX12_next_26 : decode cX12_next 26 = .ok (.istore 4, 2) := by decide +kernel
theorem dX12_next_28 : decode cX12_next 28 = .ok (.iload 4, 2) := by decide +kernel
theorem dX12_next_30 : decode cX12_next 30 = .ok (.bipush 12, 2) := by decide +kernel
theorem dX12_next_32 : decode cX12_next 32 = .ok (.if_icmp .ge 43, 3) := by decide +kernel
theorem dX12_next_35 : decode cX12_next 35 = .ok (.iload_n 3, 1) := by decide +kernel
theorem dX12_next_36 : decode cX12_next 36 = .ok (.iload 4, 2) := by decide +kernel
theorem dX12_next_38 : decode cX12_next 38 = .ok (.iadd, 1) := by decide +kernel
theorem dX12_next_39 : decode cX12_next 39 = .ok (.bipush 12, 2) := by decide +kernel
theorem dX12_next_41 : decode cX12_next 41 = .ok (.irem, 1) := by decide +kernel
theorem dX12_next_42 : decode cX12_next 42 = .ok (.istore 5, 2) := by decide +kernel
theorem dX12_next_44 : decode cX12_next 44 = .ok (.aload_n 0, 1) := by decide +kernel
theorem dX12_next_45 : decode cX12_next 45 = .ok (.getfield 19, 3) := by decide +kernel
theorem dX12_next_48 : decode cX12_next 48 = .ok (.iload 5, 2) := by decide +kernel
theorem dX12_next_50 : decode cX12_next 50 = .ok (.iaload, 1) := by decide +kernel
theorem dX12_next_51 : decode cX12_next 51 = .ok (.iload_n 1, 1) := by decide +kernel
theorem dX12_next_52 : decode cX12_next 52 = .ok (.if_icmp .ne 17, 3) := by decide +kernel
theorem dX12_next_55 : decode cX12_next 55 = .ok (.aload_n 0, 1) := by decide +kernel
theorem dX12_next_56 : decode cX12_next 56 = .ok (.iload_n 1, 1) := by decide +kernel
theorem dX12_next_57 : decode cX12_next 57 = .ok (.iload_n 2, 1) := by decide +kernel
theorem dX12_next_58 : decode cX12_next 58 = .ok (.iload 5, 2) := by decide +kernel
theorem dX12_next_60 : decode cX12_next 60 = .ok (.invokevirtual 149, 3) := by decide +kernel
theorem dX12_next_63 : decode cX12_next 63 = .ok (.ifCond .eq 6, 3) := by decide +kernel
theorem dX12_next_66 : decode cX12_next 66 = .ok (.iload 4, 2) := by decide +kernel
theorem dX12_next_68 : decode cX12_next 68 = .ok (.ireturn, 1) := by decide +kernel
theorem dX12_next_69 : decode cX12_next 69 = .ok (.iinc 4 1, 3) := by decide +kernel
theorem dX12_next_72 : decode cX12_next 72 = .ok (.goto (-44), 3) := by decide +kernel
theorem dX12_next_75 : decode cX12_next 75 = .ok (.bipush (-2), 2) := by decide +kernel
theorem dX12_next_77 : decode cX12_next 77 = .ok (.ireturn, 1) := by decide +kernel
theorem dX12_light_0 : decode cX12_light 0 = .ok (.aload_n 0, 1) := by decide +kernel
theorem dX12_light_1 : decode cX12_light 1 = .ok (.iload_n 1, 1) := by decide +kernel
theorem dX12_light_2 : decode cX12_light 2 = .ok (.invokevirtual 159, 3) := by decide +kernel
theorem dX12_light_5 : decode cX12_light 5 = .ok (.ifCond .eq 12, 3) := by decide +kernel
theorem dX12_light_8 : decode cX12_light 8 = .ok (.iload_n 2, 1) := by decide +kernel
theorem dX12_light_9 : decode cX12_light 9 = .ok (.iconst 0, 1) := by decide +kernel
theorem dX12_light_10 : decode cX12_light 10 = .ok (.iconst 1, 1) := by decide +kernel
theorem dX12_light_11 : decode cX12_light 11 = .ok (.invokestatic 134, 3) := by decide +kernel
theorem dX12_light_14 : decode cX12_light 14 = .ok (.ifCond .ne 5, 3) := by decide +kernel
theorem dX12_light_17 : decode cX12_light 17 = .ok (.iconst (-1), 1) := by decide +kernel
theorem dX12_light_18 : decode cX12_light 18 = .ok (.ireturn, 1) := by decide +kernel
theorem dX12_light_19 : decode cX12_light 19 = .ok (.iload_n 2, 1) := by decide +kernel
theorem dX12_light_20 : decode cX12_light 20 = .ok (.ifCond .ne 14, 3) := by decide +kernel
theorem dX12_light_23 : decode cX12_light 23 = .ok (.aload_n 0, 1) := by decide +kernel
theorem dX12_light_24 : decode cX12_light 24 = .ok (.iload_n 1, 1) := by decide +kernel
theorem dX12_light_25 : decode cX12_light 25 = .ok (.invokevirtual 384, 3) := by decide +kernel
theorem dX12_light_28 : decode cX12_light 28 = .ok (.invokestatic 320, 3) := by decide +kernel
theorem dX12_light_31 : decode cX12_light 31 = .ok (.goto 11, 3) := by decide +kernel
theorem dX12_light_34 : decode cX12_light 34 = .ok (.aload_n 0, 1) := by decide +kernel
theorem dX12_light_35 : decode cX12_light 35 = .ok (.iload_n 1, 1) := by decide +kernel
theorem dX12_light_36 : decode cX12_light 36 = .ok (.invokevirtual 384, 3) := by decide +kernel
theorem dX12_light_39 : decode cX12_light 39 = .ok (.invokestatic 365, 3) := by decide +kernel
theorem dX12_light_42 : decode cX12_light 42 = .ok (.ireturn, 1) := by decide +kernel
theorem dX12_seers_0 : decode cX12_seers 0 = .ok (.aload_n 0, 1) := by decide +kernel
theorem dX12_seers_1 : decode cX12_seers 1 = .ok (.iload_n 1, 1) := by decide +kernel
theorem dX12_seers_2 : decode cX12_seers 2 = .ok (.invokevirtual 145, 3) := by decide +kernel
theorem dX12_seers_5 : decode cX12_seers 5 = .ok (.ifCond .ne 5, 3) := by decide +kernel
theorem dX12_seers_8 : decode cX12_seers 8 = .ok (.iconst (-1), 1) := by decide +kernel
theorem dX12_seers_9 : decode cX12_seers 9 = .ok (.ireturn, 1) := by decide +kernel
theorem dX12_seers_10 : decode cX12_seers 10 = .ok (.iconst 0, 1) := by decide +kernel
theorem dX12_seers_11 : decode cX12_seers 11 = .ok (.istore_n 2, 1) := by decide +kernel
theorem dX12_seers_12 : decode cX12_seers 12 = .ok (.iconst 0, 1) := by decide +kernel
theorem dX12_seers_13 : decode cX12_seers 13 = .ok (.istore_n 3, 1) := by decide +kernel
theorem dX12_seers_14 : decode cX12_seers 14 = .ok (.iload_n 3, 1) := by decide +kernel
theorem dX12_seers_15 : decode cX12_seers 15 = .ok (.bipush 16, 2) := by decide +kernel
theorem dX12_seers_17 : decode cX12_seers 17 = .ok (.if_icmp .ge 35, 3) := by decide +kernel
theorem dX12_seers_20 : decode cX12_seers 20 = .ok (.aload_n 0, 1) := by decide +kernel
theorem dX12_seers_21 : decode cX12_seers 21 = .ok (.iload_n 3, 1) := by decide +kernel
theorem dX12_seers_22 : decode cX12_seers 22 = .ok (.invokevirtual 159, 3) := by decide +kernel
theorem dX12_seers_25 : decode cX12_seers 25 = .ok (.ifCond .eq 21, 3) := by decide +kernel
theorem dX12_seers_28 : decode cX12_seers 28 = .ok (.aload_n 0, 1) := by decide +kernel
theorem dX12_seers_29 : decode cX12_seers 29 = .ok (.iload_n 3, 1) := by decide +kernel
theorem dX12_seers_30 : decode cX12_seers 30 = .ok (.invokevirtual 374, 3) := by decide +kernel
theorem dX12_seers_33 : decode cX12_seers 33 = .ok (.iload_n 1, 1) := by decide +kernel
theorem dX12_seers_34 : decode cX12_seers 34 = .ok (.invokestatic 130, 3) := by decide +kernel
theorem dX12_seers_37 : decode cX12_seers 37 = .ok (.ifCond .eq 9, 3) := by decide +kernel
theorem dX12_seers_40 : decode cX12_seers 40 = .ok (.iload_n 2, 1) := by decide +kernel
theorem dX12_seers_41 : decode cX12_seers 41 = .ok (.iconst 1, 1) := by decide +kernel
theorem dX12_seers_42 : decode cX12_seers 42 = .ok (.iload_n 3, 1) := by decide +kernel
theorem dX12_seers_43 : decode cX12_seers 43 = .ok (.ishl, 1) := by decide +kernel
theorem dX12_seers_44 : decode cX12_seers 44 = .ok (.ior, 1) := by decide +kernel
theorem dX12_seers_45 : decode cX12_seers 45 = .ok (.istore_n 2, 1) := by decide +kernel
theorem dX12_seers_46 : decode cX12_seers 46 = .ok (.iinc 3 1, 3) := by decide +kernel
theorem dX12_seers_49 : decode cX12_seers 49 = .ok (.goto (-35), 3) := by decide +kernel
theorem dX12_seers_52 : decode cX12_seers 52 = .ok (.iload_n 2, 1) := by decide +kernel
theorem dX12_seers_53 : decode cX12_seers 53 = .ok (.ireturn, 1) := by decide +kernel
theorem dX12_changesTurns_0 : decode cX12_changesTurns 0 = .ok (.aload_n 0, 1) := by decide +kernel
theorem dX12_changesTurns_1 : decode cX12_changesTurns 1 = .ok (.getfield 19, 3) := by decide +kernel
theorem dX12_changesTurns_4 : decode cX12_changesTurns 4 = .ok (.iload_n 1, 1) := by decide +kernel
theorem dX12_changesTurns_5 : decode cX12_changesTurns 5 = .ok (.iaload, 1) := by decide +kernel
theorem dX12_changesTurns_6 : decode cX12_changesTurns 6 = .ok (.istore_n 3, 1) := by decide +kernel
theorem dX12_changesTurns_7 : decode cX12_changesTurns 7 = .ok (.aload_n 0, 1) := by decide +kernel
theorem dX12_changesTurns_8 : decode cX12_changesTurns 8 = .ok (.getfield 19, 3) := by decide +kernel
theorem dX12_changesTurns_11 : decode cX12_changesTurns 11 = .ok (.iload_n 1, 1) := by decide +kernel
theorem dX12_changesTurns_12 : decode cX12_changesTurns 12 = .ok (.aload_n 0, 1) := by decide +kernel
theorem dX12_changesTurns_13 : decode cX12_changesTurns 13 = .ok (.getfield 19, 3) := by decide +kernel
theorem dX12_changesTurns_16 : decode cX12_changesTurns 16 = .ok (.iload_n 2, 1) := by decide +kernel
theorem dX12_changesTurns_17 : decode cX12_changesTurns 17 = .ok (.iaload, 1) := by decide +kernel
theorem dX12_changesTurns_18 : decode cX12_changesTurns 18 = .ok (.iastore, 1) := by decide +kernel
theorem dX12_changesTurns_19 : decode cX12_changesTurns 19 = .ok (.aload_n 0, 1) := by decide +kernel
theorem dX12_changesTurns_20 : decode cX12_changesTurns 20 = .ok (.getfield 19, 3) := by decide +kernel
theorem dX12_changesTurns_23 : decode cX12_changesTurns 23 = .ok (.iload_n 2, 1) := by decide +kernel
theorem dX12_changesTurns_24 : decode cX12_changesTurns 24 = .ok (.iload_n 3, 1) := by decide +kernel
theorem dX12_changesTurns_25 : decode cX12_changesTurns 25 = .ok (.iastore, 1) := by decide +kernel
theorem dX12_changesTurns_26 : decode cX12_changesTurns 26 = .ok (.return_, 1) := by decide +kernel
theorem dX12_ifSwapped_0 : decode cX12_ifSwapped 0 = .ok (.iload_n 1, 1) := by decide +kernel
theorem dX12_ifSwapped_1 : decode cX12_ifSwapped 1 = .ok (.invokestatic 156, 3) := by decide +kernel
theorem dX12_ifSwapped_4 : decode cX12_ifSwapped 4 = .ok (.ifCond .eq 10, 3) := by decide +kernel
theorem dX12_ifSwapped_7 : decode cX12_ifSwapped 7 = .ok (.iload_n 2, 1) := by decide +kernel
theorem dX12_ifSwapped_8 : decode cX12_ifSwapped 8 = .ok (.invokestatic 156, 3) := by decide +kernel
theorem dX12_ifSwapped_11 : decode cX12_ifSwapped 11 = .ok (.ifCond .ne 5, 3) := by decide +kernel
theorem dX12_ifSwapped_14 : decode cX12_ifSwapped 14 = .ok (.iconst (-1), 1) := by decide +kernel
theorem dX12_ifSwapped_15 : decode cX12_ifSwapped 15 = .ok (.ireturn, 1) := by decide +kernel
theorem dX12_ifSwapped_16 : decode cX12_ifSwapped 16 = .ok (.aload_n 0, 1) := by decide +kernel
theorem dX12_ifSwapped_17 : decode cX12_ifSwapped 17 = .ok (.iload_n 1, 1) := by decide +kernel
theorem dX12_ifSwapped_18 : decode cX12_ifSwapped 18 = .ok (.iload_n 2, 1) := by decide +kernel
theorem dX12_ifSwapped_19 : decode cX12_ifSwapped 19 = .ok (.invokevirtual 387, 3) := by decide +kernel
theorem dX12_ifSwapped_22 : decode cX12_ifSwapped 22 = .ok (.aload_n 0, 1) := by decide +kernel
theorem dX12_ifSwapped_23 : decode cX12_ifSwapped 23 = .ok (.iconst 0, 1) := by decide +kernel
theorem dX12_ifSwapped_24 : decode cX12_ifSwapped 24 = .ok (.invokevirtual 377, 3) := by decide +kernel
theorem dX12_ifSwapped_27 : decode cX12_ifSwapped 27 = .ok (.istore_n 3, 1) := by decide +kernel
theorem dX12_ifSwapped_28 : decode cX12_ifSwapped 28 = .ok (.aload_n 0, 1) := by decide +kernel
theorem dX12_ifSwapped_29 : decode cX12_ifSwapped 29 = .ok (.iload_n 1, 1) := by decide +kernel
theorem dX12_ifSwapped_30 : decode cX12_ifSwapped 30 = .ok (.iload_n 2, 1) := by decide +kernel
theorem dX12_ifSwapped_31 : decode cX12_ifSwapped 31 = .ok (.invokevirtual 387, 3) := by decide +kernel
theorem dX12_ifSwapped_34 : decode cX12_ifSwapped 34 = .ok (.iload_n 3, 1) := by decide +kernel
theorem dX12_ifSwapped_35 : decode cX12_ifSwapped 35 = .ok (.ireturn, 1) := by decide +kernel
theorem dX12_spread_0 : decode cX12_spread 0 = .ok (.iconst 0, 1) := by decide +kernel
theorem dX12_spread_1 : decode cX12_spread 1 = .ok (.istore_n 1, 1) := by decide +kernel
theorem dX12_spread_2 : decode cX12_spread 2 = .ok (.bipush 12, 2) := by decide +kernel
theorem dX12_spread_4 : decode cX12_spread 4 = .ok (.istore_n 2, 1) := by decide +kernel
theorem dX12_spread_5 : decode cX12_spread 5 = .ok (.iconst 0, 1) := by decide +kernel
theorem dX12_spread_6 : decode cX12_spread 6 = .ok (.istore_n 3, 1) := by decide +kernel
theorem dX12_spread_7 : decode cX12_spread 7 = .ok (.iload_n 3, 1) := by decide +kernel
theorem dX12_spread_8 : decode cX12_spread 8 = .ok (.bipush 16, 2) := by decide +kernel
theorem dX12_spread_10 : decode cX12_spread 10 = .ok (.if_icmp .ge 40, 3) := by decide +kernel
theorem dX12_spread_13 : decode cX12_spread 13 = .ok (.aload_n 0, 1) := by decide +kernel
theorem dX12_spread_14 : decode cX12_spread 14 = .ok (.iload_n 3, 1) := by decide +kernel
theorem dX12_spread_15 : decode cX12_spread 15 = .ok (.invokevirtual 159, 3) := by decide +kernel
theorem dX12_spread_18 : decode cX12_spread 18 = .ok (.ifCond .ne 6, 3) := by decide +kernel
theorem dX12_spread_21 : decode cX12_spread 21 = .ok (.goto 23, 3) := by decide +kernel
theorem dX12_spread_24 : decode cX12_spread 24 = .ok (.iload_n 1, 1) := by decide +kernel
theorem dX12_spread_25 : decode cX12_spread 25 = .ok (.aload_n 0, 1) := by decide +kernel
theorem dX12_spread_26 : decode cX12_spread 26 = .ok (.iload_n 3, 1) := by decide +kernel
theorem dX12_spread_27 : decode cX12_spread 27 = .ok (.invokevirtual 368, 3) := by decide +kernel
theorem dX12_spread_30 : decode cX12_spread 30 = .ok (.invokestatic 362, 3) := by decide +kernel
theorem dX12_spread_33 : decode cX12_spread 33 = .ok (.istore_n 1, 1) := by decide +kernel
theorem dX12_spread_34 : decode cX12_spread 34 = .ok (.iload_n 2, 1) := by decide +kernel
theorem dX12_spread_35 : decode cX12_spread 35 = .ok (.aload_n 0, 1) := by decide +kernel
theorem dX12_spread_36 : decode cX12_spread 36 = .ok (.iload_n 3, 1) := by decide +kernel
theorem dX12_spread_37 : decode cX12_spread 37 = .ok (.invokevirtual 368, 3) := by decide +kernel
theorem dX12_spread_40 : decode cX12_spread 40 = .ok (.invokestatic 333, 3) := by decide +kernel
theorem dX12_spread_43 : decode cX12_spread 43 = .ok (.istore_n 2, 1) := by decide +kernel
theorem dX12_spread_44 : decode cX12_spread 44 = .ok (.iinc 3 1, 3) := by decide +kernel
theorem dX12_spread_47 : decode cX12_spread 47 = .ok (.goto (-40), 3) := by decide +kernel
theorem dX12_spread_50 : decode cX12_spread 50 = .ok (.aload_n 0, 1) := by decide +kernel
theorem dX12_spread_51 : decode cX12_spread 51 = .ok (.getfield 138, 3) := by decide +kernel
theorem dX12_spread_54 : decode cX12_spread 54 = .ok (.ifCond .ne 7, 3) := by decide +kernel
theorem dX12_spread_57 : decode cX12_spread 57 = .ok (.iconst 0, 1) := by decide +kernel
theorem dX12_spread_58 : decode cX12_spread 58 = .ok (.goto 6, 3) := by decide +kernel
theorem dX12_spread_61 : decode cX12_spread 61 = .ok (.iload_n 1, 1) := by decide +kernel
theorem dX12_spread_62 : decode cX12_spread 62 = .ok (.iload_n 2, 1) := by decide +kernel
theorem dX12_spread_63 : decode cX12_spread 63 = .ok (.isub, 1) := by decide +kernel
theorem dX12_spread_64 : decode cX12_spread 64 = .ok (.ireturn, 1) := by decide +kernel
theorem dX12_readersOf_0 : decode cX12_readersOf 0 = .ok (.iconst 0, 1) := by decide +kernel
theorem dX12_readersOf_1 : decode cX12_readersOf 1 = .ok (.istore_n 3, 1) := by decide +kernel
theorem dX12_readersOf_2 : decode cX12_readersOf 2 = .ok (.iconst 1, 1) := by decide +kernel
theorem dX12_readersOf_3 : decode cX12_readersOf 3 = .ok (.istore 4, 2) := by decide +kernel
theorem dX12_readersOf_5 : decode cX12_readersOf 5 = .ok (.iload 4, 2) := by decide +kernel
theorem dX12_readersOf_7 : decode cX12_readersOf 7 = .ok (.iload_n 2, 1) := by decide +kernel
theorem dX12_readersOf_8 : decode cX12_readersOf 8 = .ok (.if_icmp .gt 62, 3) := by decide +kernel
theorem dX12_readersOf_11 : decode cX12_readersOf 11 = .ok (.iload_n 1, 1) := by decide +kernel
theorem dX12_readersOf_12 : decode cX12_readersOf 12 = .ok (.iload 4, 2) := by decide +kernel
theorem dX12_readersOf_14 : decode cX12_readersOf 14 = .ok (.iadd, 1) := by decide +kernel
theorem dX12_readersOf_15 : decode cX12_readersOf 15 = .ok (.bipush 12, 2) := by decide +kernel
theorem dX12_readersOf_17 : decode cX12_readersOf 17 = .ok (.irem, 1) := by decide +kernel
theorem dX12_readersOf_18 : decode cX12_readersOf 18 = .ok (.istore 5, 2) := by decide +kernel
theorem dX12_readersOf_20 : decode cX12_readersOf 20 = .ok (.aload_n 0, 1) := by decide +kernel
theorem dX12_readersOf_21 : decode cX12_readersOf 21 = .ok (.getfield 19, 3) := by decide +kernel
theorem dX12_readersOf_24 : decode cX12_readersOf 24 = .ok (.iload 5, 2) := by decide +kernel
theorem dX12_readersOf_26 : decode cX12_readersOf 26 = .ok (.iaload, 1) := by decide +kernel
theorem dX12_readersOf_27 : decode cX12_readersOf 27 = .ok (.iconst (-1), 1) := by decide +kernel
theorem dX12_readersOf_28 : decode cX12_readersOf 28 = .ok (.if_icmp .ne 6, 3) := by decide +kernel
theorem dX12_readersOf_31 : decode cX12_readersOf 31 = .ok (.goto 33, 3) := by decide +kernel
theorem dX12_readersOf_34 : decode cX12_readersOf 34 = .ok (.iload_n 3, 1) := by decide +kernel
theorem dX12_readersOf_35 : decode cX12_readersOf 35 = .ok (.iconst 1, 1) := by decide +kernel
theorem dX12_readersOf_36 : decode cX12_readersOf 36 = .ok (.aload_n 0, 1) := by decide +kernel
theorem dX12_readersOf_37 : decode cX12_readersOf 37 = .ok (.getfield 19, 3) := by decide +kernel
theorem dX12_readersOf_40 : decode cX12_readersOf 40 = .ok (.iload 5, 2) := by decide +kernel
theorem dX12_readersOf_42 : decode cX12_readersOf 42 = .ok (.iaload, 1) := by decide +kernel
theorem dX12_readersOf_43 : decode cX12_readersOf 43 = .ok (.ishl, 1) := by decide +kernel
theorem dX12_readersOf_44 : decode cX12_readersOf 44 = .ok (.ior, 1) := by decide +kernel
theorem dX12_readersOf_45 : decode cX12_readersOf 45 = .ok (.istore_n 3, 1) := by decide +kernel
theorem dX12_readersOf_46 : decode cX12_readersOf 46 = .ok (.aload_n 0, 1) := by decide +kernel
theorem dX12_readersOf_47 : decode cX12_readersOf 47 = .ok (.aload_n 0, 1) := by decide +kernel
theorem dX12_readersOf_48 : decode cX12_readersOf 48 = .ok (.getfield 19, 3) := by decide +kernel
theorem dX12_readersOf_51 : decode cX12_readersOf 51 = .ok (.iload 5, 2) := by decide +kernel
theorem dX12_readersOf_53 : decode cX12_readersOf 53 = .ok (.iaload, 1) := by decide +kernel
theorem dX12_readersOf_54 : decode cX12_readersOf 54 = .ok (.iload 5, 2) := by decide +kernel
theorem dX12_readersOf_56 : decode cX12_readersOf 56 = .ok (.invokevirtual 152, 3) := by decide +kernel
theorem dX12_readersOf_59 : decode cX12_readersOf 59 = .ok (.ifCond .ne 5, 3) := by decide +kernel
theorem dX12_readersOf_62 : decode cX12_readersOf 62 = .ok (.iload_n 3, 1) := by decide +kernel
theorem dX12_readersOf_63 : decode cX12_readersOf 63 = .ok (.ireturn, 1) := by decide +kernel
theorem dX12_readersOf_64 : decode cX12_readersOf 64 = .ok (.iinc 4 1, 3) := by decide +kernel
theorem dX12_readersOf_67 : decode cX12_readersOf 67 = .ok (.goto (-62), 3) := by decide +kernel
theorem dX12_readersOf_70 : decode cX12_readersOf 70 = .ok (.iload_n 3, 1) := by decide +kernel
theorem dX12_readersOf_71 : decode cX12_readersOf 71 = .ok (.ireturn, 1) := by decide +kernel
theorem dX12_readers_0 : decode cX12_readers 0 = .ok (.iload_n 1, 1) := by decide +kernel
theorem dX12_readers_1 : decode cX12_readers 1 = .ok (.invokestatic 156, 3) := by decide +kernel
theorem dX12_readers_4 : decode cX12_readers 4 = .ok (.ifCond .eq 22, 3) := by decide +kernel
theorem dX12_readers_7 : decode cX12_readers 7 = .ok (.iload_n 2, 1) := by decide +kernel
theorem dX12_readers_8 : decode cX12_readers 8 = .ok (.iconst 0, 1) := by decide +kernel
theorem dX12_readers_9 : decode cX12_readers 9 = .ok (.bipush 12, 2) := by decide +kernel
theorem dX12_readers_11 : decode cX12_readers 11 = .ok (.invokestatic 134, 3) := by decide +kernel
theorem dX12_readers_14 : decode cX12_readers 14 = .ok (.ifCond .eq 12, 3) := by decide +kernel
theorem dX12_readers_17 : decode cX12_readers 17 = .ok (.aload_n 0, 1) := by decide +kernel
theorem dX12_readers_18 : decode cX12_readers 18 = .ok (.iload_n 1, 1) := by decide +kernel
theorem dX12_readers_19 : decode cX12_readers 19 = .ok (.iload_n 2, 1) := by decide +kernel
theorem dX12_readers_20 : decode cX12_readers 20 = .ok (.invokevirtual 390, 3) := by decide +kernel
theorem dX12_readers_23 : decode cX12_readers 23 = .ok (.goto 4, 3) := by decide +kernel
theorem dX12_readers_26 : decode cX12_readers 26 = .ok (.iconst (-1), 1) := by decide +kernel
theorem dX12_readers_27 : decode cX12_readers 27 = .ok (.ireturn, 1) := by decide +kernel
theorem dX12_othersWhoRead_0 : decode cX12_othersWhoRead 0 = .ok (.aload_n 0, 1) := by decide +kernel
theorem dX12_othersWhoRead_1 : decode cX12_othersWhoRead 1 = .ok (.iload_n 2, 1) := by decide +kernel
theorem dX12_othersWhoRead_2 : decode cX12_othersWhoRead 2 = .ok (.bipush 12, 2) := by decide +kernel
theorem dX12_othersWhoRead_4 : decode cX12_othersWhoRead 4 = .ok (.invokevirtual 390, 3) := by decide +kernel
theorem dX12_othersWhoRead_7 : decode cX12_othersWhoRead 7 = .ok (.iconst 1, 1) := by decide +kernel
theorem dX12_othersWhoRead_8 : decode cX12_othersWhoRead 8 = .ok (.iload_n 1, 1) := by decide +kernel
theorem dX12_othersWhoRead_9 : decode cX12_othersWhoRead 9 = .ok (.ishl, 1) := by decide +kernel
theorem dX12_othersWhoRead_10 : decode cX12_othersWhoRead 10 = .ok (.iconst (-1), 1) := by decide +kernel
theorem dX12_othersWhoRead_11 : decode cX12_othersWhoRead 11 = .ok (.ixor, 1) := by decide +kernel
theorem dX12_othersWhoRead_12 : decode cX12_othersWhoRead 12 = .ok (.iand, 1) := by decide +kernel
theorem dX12_othersWhoRead_13 : decode cX12_othersWhoRead 13 = .ok (.invokestatic 320, 3) := by decide +kernel
theorem dX12_othersWhoRead_16 : decode cX12_othersWhoRead 16 = .ok (.ireturn, 1) := by decide +kernel
theorem dX12_bestBreath_0 : decode cX12_bestBreath 0 = .ok (.aload_n 0, 1) := by decide +kernel
theorem dX12_bestBreath_1 : decode cX12_bestBreath 1 = .ok (.iload_n 1, 1) := by decide +kernel
theorem dX12_bestBreath_2 : decode cX12_bestBreath 2 = .ok (.invokevirtual 159, 3) := by decide +kernel
theorem dX12_bestBreath_5 : decode cX12_bestBreath 5 = .ok (.ifCond .eq 12, 3) := by decide +kernel
theorem dX12_bestBreath_8 : decode cX12_bestBreath 8 = .ok (.iload_n 2, 1) := by decide +kernel
theorem dX12_bestBreath_9 : decode cX12_bestBreath 9 = .ok (.iconst 0, 1) := by decide +kernel
theorem dX12_bestBreath_10 : decode cX12_bestBreath 10 = .ok (.iconst 1, 1) := by decide +kernel
theorem dX12_bestBreath_11 : decode cX12_bestBreath 11 = .ok (.invokestatic 134, 3) := by decide +kernel
theorem dX12_bestBreath_14 : decode cX12_bestBreath 14 = .ok (.ifCond .ne 5, 3) := by decide +kernel
theorem dX12_bestBreath_17 : decode cX12_bestBreath 17 = .ok (.iconst (-1), 1) := by decide +kernel
theorem dX12_bestBreath_18 : decode cX12_bestBreath 18 = .ok (.ireturn, 1) := by decide +kernel
theorem dX12_bestBreath_19 : decode cX12_bestBreath 19 = .ok (.bipush (-2), 2) := by decide +kernel
theorem dX12_bestBreath_21 : decode cX12_bestBreath 21 = .ok (.istore_n 3, 1) := by decide +kernel
theorem dX12_bestBreath_22 : decode cX12_bestBreath 22 = .ok (.iconst 0, 1) := by decide +kernel
theorem dX12_bestBreath_23 : decode cX12_bestBreath 23 = .ok (.istore 4, 2) := by decide +kernel
theorem dX12_bestBreath_25 : decode cX12_bestBreath 25 = .ok (.iload 4, 2) := by decide +kernel
theorem dX12_bestBreath_27 : decode cX12_bestBreath 27 = .ok (.bipush 12, 2) := by decide +kernel
theorem dX12_bestBreath_29 : decode cX12_bestBreath 29 = .ok (.if_icmp .ge 45, 3) := by decide +kernel
theorem dX12_bestBreath_32 : decode cX12_bestBreath 32 = .ok (.aload_n 0, 1) := by decide +kernel
theorem dX12_bestBreath_33 : decode cX12_bestBreath 33 = .ok (.getfield 19, 3) := by decide +kernel
theorem dX12_bestBreath_36 : decode cX12_bestBreath 36 = .ok (.iload 4, 2) := by decide +kernel
theorem dX12_bestBreath_38 : decode cX12_bestBreath 38 = .ok (.iaload, 1) := by decide +kernel
theorem dX12_bestBreath_39 : decode cX12_bestBreath 39 = .ok (.iload_n 1, 1) := by decide +kernel
theorem dX12_bestBreath_40 : decode cX12_bestBreath 40 = .ok (.if_icmp .ne 28, 3) := by decide +kernel
theorem dX12_bestBreath_43 : decode cX12_bestBreath 43 = .ok (.iload_n 3, 1) := by decide +kernel
theorem dX12_bestBreath_44 : decode cX12_bestBreath 44 = .ok (.bipush (-2), 2) := by decide +kernel
theorem dX12_bestBreath_46 : decode cX12_bestBreath 46 = .ok (.if_icmp .eq 19, 3) := by decide +kernel
theorem dX12_bestBreath_49 : decode cX12_bestBreath 49 = .ok (.aload_n 0, 1) := by decide +kernel
theorem dX12_bestBreath_50 : decode cX12_bestBreath 50 = .ok (.iload_n 1, 1) := by decide +kernel
theorem dX12_bestBreath_51 : decode cX12_bestBreath 51 = .ok (.iload 4, 2) := by decide +kernel
theorem dX12_bestBreath_53 : decode cX12_bestBreath 53 = .ok (.invokevirtual 393, 3) := by decide +kernel
theorem dX12_bestBreath_56 : decode cX12_bestBreath 56 = .ok (.aload_n 0, 1) := by decide +kernel
theorem dX12_bestBreath_57 : decode cX12_bestBreath 57 = .ok (.iload_n 1, 1) := by decide +kernel
theorem dX12_bestBreath_58 : decode cX12_bestBreath 58 = .ok (.iload_n 3, 1) := by decide +kernel
theorem dX12_bestBreath_59 : decode cX12_bestBreath 59 = .ok (.invokevirtual 393, 3) := by decide +kernel
theorem dX12_bestBreath_62 : decode cX12_bestBreath 62 = .ok (.if_icmp .le 6, 3) := by decide +kernel
theorem dX12_bestBreath_65 : decode cX12_bestBreath 65 = .ok (.iload 4, 2) := by decide +kernel
theorem dX12_bestBreath_67 : decode cX12_bestBreath 67 = .ok (.istore_n 3, 1) := by decide +kernel
theorem dX12_bestBreath_68 : decode cX12_bestBreath 68 = .ok (.iinc 4 1, 3) := by decide +kernel
theorem dX12_bestBreath_71 : decode cX12_bestBreath 71 = .ok (.goto (-46), 3) := by decide +kernel
theorem dX12_bestBreath_74 : decode cX12_bestBreath 74 = .ok (.iload_n 2, 1) := by decide +kernel
theorem dX12_bestBreath_75 : decode cX12_bestBreath 75 = .ok (.ifCond .ne 7, 3) := by decide +kernel
theorem dX12_bestBreath_78 : decode cX12_bestBreath 78 = .ok (.iload_n 3, 1) := by decide +kernel
theorem dX12_bestBreath_79 : decode cX12_bestBreath 79 = .ok (.goto 19, 3) := by decide +kernel
theorem dX12_bestBreath_82 : decode cX12_bestBreath 82 = .ok (.iload_n 3, 1) := by decide +kernel
theorem dX12_bestBreath_83 : decode cX12_bestBreath 83 = .ok (.bipush (-2), 2) := by decide +kernel
theorem dX12_bestBreath_85 : decode cX12_bestBreath 85 = .ok (.if_icmp .ne 7, 3) := by decide +kernel
theorem dX12_bestBreath_88 : decode cX12_bestBreath 88 = .ok (.iconst 0, 1) := by decide +kernel
theorem dX12_bestBreath_89 : decode cX12_bestBreath 89 = .ok (.goto 9, 3) := by decide +kernel
theorem dX12_bestBreath_92 : decode cX12_bestBreath 92 = .ok (.aload_n 0, 1) := by decide +kernel
theorem dX12_bestBreath_93 : decode cX12_bestBreath 93 = .ok (.iload_n 1, 1) := by decide +kernel
theorem dX12_bestBreath_94 : decode cX12_bestBreath 94 = .ok (.iload_n 3, 1) := by decide +kernel
theorem dX12_bestBreath_95 : decode cX12_bestBreath 95 = .ok (.invokevirtual 393, 3) := by decide +kernel
theorem dX12_bestBreath_98 : decode cX12_bestBreath 98 = .ok (.ireturn, 1) := by decide +kernel
theorem dX12_twosAt_0 : decode cX12_twosAt 0 = .ok (.iconst 0, 1) := by decide +kernel
theorem dX12_twosAt_1 : decode cX12_twosAt 1 = .ok (.istore_n 2, 1) := by decide +kernel
theorem dX12_twosAt_2 : decode cX12_twosAt 2 = .ok (.iconst 0, 1) := by decide +kernel
theorem dX12_twosAt_3 : decode cX12_twosAt 3 = .ok (.istore_n 3, 1) := by decide +kernel
theorem dX12_twosAt_4 : decode cX12_twosAt 4 = .ok (.iload_n 3, 1) := by decide +kernel
theorem dX12_twosAt_5 : decode cX12_twosAt 5 = .ok (.bipush 16, 2) := by decide +kernel
theorem dX12_twosAt_7 : decode cX12_twosAt 7 = .ok (.if_icmp .ge 29, 3) := by decide +kernel
theorem dX12_twosAt_10 : decode cX12_twosAt 10 = .ok (.aload_n 0, 1) := by decide +kernel
theorem dX12_twosAt_11 : decode cX12_twosAt 11 = .ok (.iload_n 3, 1) := by decide +kernel
theorem dX12_twosAt_12 : decode cX12_twosAt 12 = .ok (.invokevirtual 159, 3) := by decide +kernel
theorem dX12_twosAt_15 : decode cX12_twosAt 15 = .ok (.ifCond .eq 15, 3) := by decide +kernel
theorem dX12_twosAt_18 : decode cX12_twosAt 18 = .ok (.iload_n 2, 1) := by decide +kernel
theorem dX12_twosAt_19 : decode cX12_twosAt 19 = .ok (.aload_n 0, 1) := by decide +kernel
theorem dX12_twosAt_20 : decode cX12_twosAt 20 = .ok (.iload_n 3, 1) := by decide +kernel
theorem dX12_twosAt_21 : decode cX12_twosAt 21 = .ok (.iload_n 1, 1) := by decide +kernel
theorem dX12_twosAt_22 : decode cX12_twosAt 22 = .ok (.invokevirtual 152, 3) := by decide +kernel
theorem dX12_twosAt_25 : decode cX12_twosAt 25 = .ok (.invokestatic 320, 3) := by decide +kernel
theorem dX12_twosAt_28 : decode cX12_twosAt 28 = .ok (.iadd, 1) := by decide +kernel
theorem dX12_twosAt_29 : decode cX12_twosAt 29 = .ok (.istore_n 2, 1) := by decide +kernel
theorem dX12_twosAt_30 : decode cX12_twosAt 30 = .ok (.iinc 3 1, 3) := by decide +kernel
theorem dX12_twosAt_33 : decode cX12_twosAt 33 = .ok (.goto (-29), 3) := by decide +kernel
theorem dX12_twosAt_36 : decode cX12_twosAt 36 = .ok (.iload_n 2, 1) := by decide +kernel
theorem dX12_twosAt_37 : decode cX12_twosAt 37 = .ok (.ireturn, 1) := by decide +kernel
theorem dX12_clearest_0 : decode cX12_clearest 0 = .ok (.iload_n 1, 1) := by decide +kernel
theorem dX12_clearest_1 : decode cX12_clearest 1 = .ok (.iconst 0, 1) := by decide +kernel
theorem dX12_clearest_2 : decode cX12_clearest 2 = .ok (.iconst 1, 1) := by decide +kernel
theorem dX12_clearest_3 : decode cX12_clearest 3 = .ok (.invokestatic 134, 3) := by decide +kernel
theorem dX12_clearest_6 : decode cX12_clearest 6 = .ok (.ifCond .ne 5, 3) := by decide +kernel
theorem dX12_clearest_9 : decode cX12_clearest 9 = .ok (.iconst (-1), 1) := by decide +kernel
theorem dX12_clearest_10 : decode cX12_clearest 10 = .ok (.ireturn, 1) := by decide +kernel
theorem dX12_clearest_11 : decode cX12_clearest 11 = .ok (.iconst 0, 1) := by decide +kernel
theorem dX12_clearest_12 : decode cX12_clearest 12 = .ok (.istore_n 2, 1) := by decide +kernel
theorem dX12_clearest_13 : decode cX12_clearest 13 = .ok (.iconst 1, 1) := by decide +kernel
theorem dX12_clearest_14 : decode cX12_clearest 14 = .ok (.istore_n 3, 1) := by decide +kernel
theorem dX12_clearest_15 : decode cX12_clearest 15 = .ok (.iload_n 3, 1) := by decide +kernel
theorem dX12_clearest_16 : decode cX12_clearest 16 = .ok (.bipush 12, 2) := by decide +kernel
theorem dX12_clearest_18 : decode cX12_clearest 18 = .ok (.if_icmp .ge 24, 3) := by decide +kernel
theorem dX12_clearest_21 : decode cX12_clearest 21 = .ok (.aload_n 0, 1) := by decide +kernel
theorem dX12_clearest_22 : decode cX12_clearest 22 = .ok (.iload_n 3, 1) := by decide +kernel
theorem dX12_clearest_23 : decode cX12_clearest 23 = .ok (.invokevirtual 396, 3) := by decide +kernel
theorem dX12_clearest_26 : decode cX12_clearest 26 = .ok (.aload_n 0, 1) := by decide +kernel
theorem dX12_clearest_27 : decode cX12_clearest 27 = .ok (.iload_n 2, 1) := by decide +kernel
theorem dX12_clearest_28 : decode cX12_clearest 28 = .ok (.invokevirtual 396, 3) := by decide +kernel
theorem dX12_clearest_31 : decode cX12_clearest 31 = .ok (.if_icmp .le 5, 3) := by decide +kernel
theorem dX12_clearest_34 : decode cX12_clearest 34 = .ok (.iload_n 3, 1) := by decide +kernel
theorem dX12_clearest_35 : decode cX12_clearest 35 = .ok (.istore_n 2, 1) := by decide +kernel
theorem dX12_clearest_36 : decode cX12_clearest 36 = .ok (.iinc 3 1, 3) := by decide +kernel
theorem dX12_clearest_39 : decode cX12_clearest 39 = .ok (.goto (-24), 3) := by decide +kernel
theorem dX12_clearest_42 : decode cX12_clearest 42 = .ok (.iload_n 1, 1) := by decide +kernel
theorem dX12_clearest_43 : decode cX12_clearest 43 = .ok (.ifCond .ne 7, 3) := by decide +kernel
theorem dX12_clearest_46 : decode cX12_clearest 46 = .ok (.iload_n 2, 1) := by decide +kernel
theorem dX12_clearest_47 : decode cX12_clearest 47 = .ok (.goto 8, 3) := by decide +kernel
theorem dX12_clearest_50 : decode cX12_clearest 50 = .ok (.aload_n 0, 1) := by decide +kernel
theorem dX12_clearest_51 : decode cX12_clearest 51 = .ok (.iload_n 2, 1) := by decide +kernel
theorem dX12_clearest_52 : decode cX12_clearest 52 = .ok (.invokevirtual 396, 3) := by decide +kernel
theorem dX12_clearest_55 : decode cX12_clearest 55 = .ok (.ireturn, 1) := by decide +kernel
theorem dX12_whoHad_0 : decode cX12_whoHad 0 = .ok (.iload_n 1, 1) := by decide +kernel
theorem dX12_whoHad_1 : decode cX12_whoHad 1 = .ok (.invokestatic 156, 3) := by decide +kernel
theorem dX12_whoHad_4 : decode cX12_whoHad 4 = .ok (.ifCond .eq 14, 3) := by decide +kernel
theorem dX12_whoHad_7 : decode cX12_whoHad 7 = .ok (.iload_n 2, 1) := by decide +kernel
theorem dX12_whoHad_8 : decode cX12_whoHad 8 = .ok (.iconst 0, 1) := by decide +kernel
theorem dX12_whoHad_9 : decode cX12_whoHad 9 = .ok (.ldc_w 399, 3) := by decide +kernel
theorem dX12_whoHad_12 : decode cX12_whoHad 12 = .ok (.invokestatic 134, 3) := by decide +kernel
theorem dX12_whoHad_15 : decode cX12_whoHad 15 = .ok (.ifCond .ne 5, 3) := by decide +kernel
theorem dX12_whoHad_18 : decode cX12_whoHad 18 = .ok (.iconst (-1), 1) := by decide +kernel
theorem dX12_whoHad_19 : decode cX12_whoHad 19 = .ok (.ireturn, 1) := by decide +kernel
theorem dX12_whoHad_20 : decode cX12_whoHad 20 = .ok (.iconst 0, 1) := by decide +kernel
theorem dX12_whoHad_21 : decode cX12_whoHad 21 = .ok (.istore_n 3, 1) := by decide +kernel
theorem dX12_whoHad_22 : decode cX12_whoHad 22 = .ok (.iconst 0, 1) := by decide +kernel
theorem dX12_whoHad_23 : decode cX12_whoHad 23 = .ok (.istore 4, 2) := by decide +kernel
theorem dX12_whoHad_25 : decode cX12_whoHad 25 = .ok (.iload 4, 2) := by decide +kernel
theorem dX12_whoHad_27 : decode cX12_whoHad 27 = .ok (.bipush 16, 2) := by decide +kernel
theorem dX12_whoHad_29 : decode cX12_whoHad 29 = .ok (.if_icmp .ge 36, 3) := by decide +kernel
theorem dX12_whoHad_32 : decode cX12_whoHad 32 = .ok (.aload_n 0, 1) := by decide +kernel
theorem dX12_whoHad_33 : decode cX12_whoHad 33 = .ok (.iload 4, 2) := by decide +kernel
theorem dX12_whoHad_35 : decode cX12_whoHad 35 = .ok (.invokevirtual 159, 3) := by decide +kernel
theorem dX12_whoHad_38 : decode cX12_whoHad 38 = .ok (.ifCond .eq 21, 3) := by decide +kernel
theorem dX12_whoHad_41 : decode cX12_whoHad 41 = .ok (.aload_n 0, 1) := by decide +kernel
theorem dX12_whoHad_42 : decode cX12_whoHad 42 = .ok (.iload 4, 2) := by decide +kernel
theorem dX12_whoHad_44 : decode cX12_whoHad 44 = .ok (.iload_n 1, 1) := by decide +kernel
theorem dX12_whoHad_45 : decode cX12_whoHad 45 = .ok (.invokevirtual 152, 3) := by decide +kernel
theorem dX12_whoHad_48 : decode cX12_whoHad 48 = .ok (.iload_n 2, 1) := by decide +kernel
theorem dX12_whoHad_49 : decode cX12_whoHad 49 = .ok (.if_icmp .ne 10, 3) := by decide +kernel
theorem dX12_whoHad_52 : decode cX12_whoHad 52 = .ok (.iload_n 3, 1) := by decide +kernel
theorem dX12_whoHad_53 : decode cX12_whoHad 53 = .ok (.iconst 1, 1) := by decide +kernel
theorem dX12_whoHad_54 : decode cX12_whoHad 54 = .ok (.iload 4, 2) := by decide +kernel
theorem dX12_whoHad_56 : decode cX12_whoHad 56 = .ok (.ishl, 1) := by decide +kernel
theorem dX12_whoHad_57 : decode cX12_whoHad 57 = .ok (.ior, 1) := by decide +kernel
theorem dX12_whoHad_58 : decode cX12_whoHad 58 = .ok (.istore_n 3, 1) := by decide +kernel
theorem dX12_whoHad_59 : decode cX12_whoHad 59 = .ok (.iinc 4 1, 3) := by decide +kernel
theorem dX12_whoHad_62 : decode cX12_whoHad 62 = .ok (.goto (-37), 3) := by decide +kernel
theorem dX12_whoHad_65 : decode cX12_whoHad 65 = .ok (.iload_n 3, 1) := by decide +kernel
theorem dX12_whoHad_66 : decode cX12_whoHad 66 = .ok (.ireturn, 1) := by decide +kernel
theorem dX12_stateOf_0 : decode cX12_stateOf 0 = .ok (.bipush 17, 2) := by decide +kernel
theorem dX12_stateOf_2 : decode cX12_stateOf 2 = .ok (.iload_n 0, 1) := by decide +kernel
theorem dX12_stateOf_3 : decode cX12_stateOf 3 = .ok (.imul, 1) := by decide +kernel
theorem dX12_stateOf_4 : decode cX12_stateOf 4 = .ok (.iload_n 1, 1) := by decide +kernel
theorem dX12_stateOf_5 : decode cX12_stateOf 5 = .ok (.iadd, 1) := by decide +kernel
theorem dX12_stateOf_6 : decode cX12_stateOf 6 = .ok (.ireturn, 1) := by decide +kernel
theorem dX12_metBy_0 : decode cX12_metBy 0 = .ok (.iconst 0, 1) := by decide +kernel
theorem dX12_metBy_1 : decode cX12_metBy 1 = .ok (.istore 4, 2) := by decide +kernel
theorem dX12_metBy_3 : decode cX12_metBy 3 = .ok (.iconst 0, 1) := by decide +kernel
theorem dX12_metBy_4 : decode cX12_metBy 4 = .ok (.istore 5, 2) := by decide +kernel
theorem dX12_metBy_6 : decode cX12_metBy 6 = .ok (.iload 5, 2) := by decide +kernel
theorem dX12_metBy_8 : decode cX12_metBy 8 = .ok (.iload_n 3, 1) := by decide +kernel
theorem dX12_metBy_9 : decode cX12_metBy 9 = .ok (.if_icmp .ge 49, 3) := by decide +kernel
theorem dX12_metBy_12 : decode cX12_metBy 12 = .ok (.aload_n 0, 1) := by decide +kernel
theorem dX12_metBy_13 : decode cX12_metBy 13 = .ok (.iconst 2, 1) := by decide +kernel
theorem dX12_metBy_14 : decode cX12_metBy 14 = .ok (.iload 5, 2) := by decide +kernel
theorem dX12_metBy_16 : decode cX12_metBy 16 = .ok (.imul, 1) := by decide +kernel
theorem dX12_metBy_17 : decode cX12_metBy 17 = .ok (.invokevirtual 400, 3) := by decide +kernel
theorem dX12_metBy_20 : decode cX12_metBy 20 = .ok (.iload_n 1, 1) := by decide +kernel
theorem dX12_metBy_21 : decode cX12_metBy 21 = .ok (.if_icmp .ne 31, 3) := by decide +kernel
theorem dX12_metBy_24 : decode cX12_metBy 24 = .ok (.aload_n 0, 1) := by decide +kernel
theorem dX12_metBy_25 : decode cX12_metBy 25 = .ok (.iload_n 1, 1) := by decide +kernel
theorem dX12_metBy_26 : decode cX12_metBy 26 = .ok (.aload_n 0, 1) := by decide +kernel
theorem dX12_metBy_27 : decode cX12_metBy 27 = .ok (.iconst 2, 1) := by decide +kernel
theorem dX12_metBy_28 : decode cX12_metBy 28 = .ok (.iload 5, 2) := by decide +kernel
theorem dX12_metBy_30 : decode cX12_metBy 30 = .ok (.imul, 1) := by decide +kernel
theorem dX12_metBy_31 : decode cX12_metBy 31 = .ok (.iconst 1, 1) := by decide +kernel
theorem dX12_metBy_32 : decode cX12_metBy 32 = .ok (.iadd, 1) := by decide +kernel
theorem dX12_metBy_33 : decode cX12_metBy 33 = .ok (.invokevirtual 400, 3) := by decide +kernel
theorem dX12_metBy_36 : decode cX12_metBy 36 = .ok (.iload_n 2, 1) := by decide +kernel
theorem dX12_metBy_37 : decode cX12_metBy 37 = .ok (.invokevirtual 149, 3) := by decide +kernel
theorem dX12_metBy_40 : decode cX12_metBy 40 = .ok (.ifCond .eq 12, 3) := by decide +kernel
theorem dX12_metBy_43 : decode cX12_metBy 43 = .ok (.iload 4, 2) := by decide +kernel
theorem dX12_metBy_45 : decode cX12_metBy 45 = .ok (.iconst 1, 1) := by decide +kernel
theorem dX12_metBy_46 : decode cX12_metBy 46 = .ok (.iload 5, 2) := by decide +kernel
theorem dX12_metBy_48 : decode cX12_metBy 48 = .ok (.ishl, 1) := by decide +kernel
theorem dX12_metBy_49 : decode cX12_metBy 49 = .ok (.ior, 1) := by decide +kernel
theorem dX12_metBy_50 : decode cX12_metBy 50 = .ok (.istore 4, 2) := by decide +kernel
theorem dX12_metBy_52 : decode cX12_metBy 52 = .ok (.iinc 5 1, 3) := by decide +kernel
theorem dX12_metBy_55 : decode cX12_metBy 55 = .ok (.goto (-49), 3) := by decide +kernel
theorem dX12_metBy_58 : decode cX12_metBy 58 = .ok (.iload 4, 2) := by decide +kernel
theorem dX12_metBy_60 : decode cX12_metBy 60 = .ok (.ireturn, 1) := by decide +kernel
theorem dX12_choosesHouse_0 : decode cX12_choosesHouse 0 = .ok (.aload_n 0, 1) := by decide +kernel
theorem dX12_choosesHouse_1 : decode cX12_choosesHouse 1 = .ok (.iload_n 1, 1) := by decide +kernel
theorem dX12_choosesHouse_2 : decode cX12_choosesHouse 2 = .ok (.iload_n 2, 1) := by decide +kernel
theorem dX12_choosesHouse_3 : decode cX12_choosesHouse 3 = .ok (.iload_n 3, 1) := by decide +kernel
theorem dX12_choosesHouse_4 : decode cX12_choosesHouse 4 = .ok (.invokevirtual 403, 3) := by decide +kernel
theorem dX12_choosesHouse_7 : decode cX12_choosesHouse 7 = .ok (.istore 4, 2) := by decide +kernel
theorem dX12_choosesHouse_9 : decode cX12_choosesHouse 9 = .ok (.iload 4, 2) := by decide +kernel
theorem dX12_choosesHouse_11 : decode cX12_choosesHouse 11 = .ok (.ifCond .ne 4, 3) := by decide +kernel
theorem dX12_choosesHouse_14 : decode cX12_choosesHouse 14 = .ok (.return_, 1) := by decide +kernel
theorem dX12_choosesHouse_15 : decode cX12_choosesHouse 15 = .ok (.iconst 0, 1) := by decide +kernel
theorem dX12_choosesHouse_16 : decode cX12_choosesHouse 16 = .ok (.istore 5, 2) := by decide +kernel
theorem dX12_choosesHouse_18 : decode cX12_choosesHouse 18 = .ok (.iload 5, 2) := by decide +kernel
theorem dX12_choosesHouse_20 : decode cX12_choosesHouse 20 = .ok (.iconst 1, 1) := by decide +kernel
theorem dX12_choosesHouse_21 : decode cX12_choosesHouse 21 = .ok (.iload_n 3, 1) := by decide +kernel
theorem dX12_choosesHouse_22 : decode cX12_choosesHouse 22 = .ok (.ishl, 1) := by decide +kernel
theorem dX12_choosesHouse_23 : decode cX12_choosesHouse 23 = .ok (.if_icmp .ge 106, 3) := by decide +kernel
theorem dX12_choosesHouse_26 : decode cX12_choosesHouse 26 = .ok (.iconst 0, 1) := by decide +kernel
theorem dX12_choosesHouse_27 : decode cX12_choosesHouse 27 = .ok (.istore 6, 2) := by decide +kernel
theorem dX12_choosesHouse_29 : decode cX12_choosesHouse 29 = .ok (.iload 6, 2) := by decide +kernel
theorem dX12_choosesHouse_31 : decode cX12_choosesHouse 31 = .ok (.bipush 16, 2) := by decide +kernel
theorem dX12_choosesHouse_33 : decode cX12_choosesHouse 33 = .ok (.if_icmp .gt 90, 3) := by decide +kernel
theorem dX12_choosesHouse_36 : decode cX12_choosesHouse 36 = .ok (.aload_n 0, 1) := by decide +kernel
theorem dX12_choosesHouse_37 : decode cX12_choosesHouse 37 = .ok (.getfield 104, 3) := by decide +kernel
theorem dX12_choosesHouse_40 : decode cX12_choosesHouse 40 = .ok (.iload 5, 2) := by decide +kernel
theorem dX12_choosesHouse_42 : decode cX12_choosesHouse 42 = .ok (.iload 6, 2) := by decide +kernel
theorem dX12_choosesHouse_44 : decode cX12_choosesHouse 44 = .ok (.invokestatic 406, 3) := by decide +kernel
theorem dX12_choosesHouse_47 : decode cX12_choosesHouse 47 = .ok (.iaload, 1) := by decide +kernel
theorem dX12_choosesHouse_48 : decode cX12_choosesHouse 48 = .ok (.istore 7, 2) := by decide +kernel
theorem dX12_choosesHouse_50 : decode cX12_choosesHouse 50 = .ok (.iload 7, 2) := by decide +kernel
theorem dX12_choosesHouse_52 : decode cX12_choosesHouse 52 = .ok (.ldc_w 409, 3) := by decide +kernel
theorem dX12_choosesHouse_55 : decode cX12_choosesHouse 55 = .ok (.if_icmp .lt 6, 3) := by decide +kernel
theorem dX12_choosesHouse_58 : decode cX12_choosesHouse 58 = .ok (.goto 59, 3) := by decide +kernel
theorem dX12_choosesHouse_61 : decode cX12_choosesHouse 61 = .ok (.iload 6, 2) := by decide +kernel
theorem dX12_choosesHouse_63 : decode cX12_choosesHouse 63 = .ok (.bipush 16, 2) := by decide +kernel
theorem dX12_choosesHouse_65 : decode cX12_choosesHouse 65 = .ok (.if_icmp .ne 7, 3) := by decide +kernel
theorem dX12_choosesHouse_68 : decode cX12_choosesHouse 68 = .ok (.iload_n 1, 1) := by decide +kernel
theorem dX12_choosesHouse_69 : decode cX12_choosesHouse 69 = .ok (.goto 16, 3) := by decide +kernel
theorem dX12_choosesHouse_72 : decode cX12_choosesHouse 72 = .ok (.iload 7, 2) := by decide +kernel
theorem dX12_choosesHouse_74 : decode cX12_choosesHouse 74 = .ok (.bipush 32, 2) := by decide +kernel
theorem dX12_choosesHouse_76 : decode cX12_choosesHouse 76 = .ok (.iload_n 1, 1) := by decide +kernel
theorem dX12_choosesHouse_77 : decode cX12_choosesHouse 77 = .ok (.iload 6, 2) := by decide +kernel
theorem dX12_choosesHouse_79 : decode cX12_choosesHouse 79 = .ok (.isub, 1) := by decide +kernel
theorem dX12_choosesHouse_80 : decode cX12_choosesHouse 80 = .ok (.invokestatic 317, 3) := by decide +kernel
theorem dX12_choosesHouse_83 : decode cX12_choosesHouse 83 = .ok (.imul, 1) := by decide +kernel
theorem dX12_choosesHouse_84 : decode cX12_choosesHouse 84 = .ok (.iadd, 1) := by decide +kernel
theorem dX12_choosesHouse_85 : decode cX12_choosesHouse 85 = .ok (.istore 8, 2) := by decide +kernel
theorem dX12_choosesHouse_87 : decode cX12_choosesHouse 87 = .ok (.iload 5, 2) := by decide +kernel
theorem dX12_choosesHouse_89 : decode cX12_choosesHouse 89 = .ok (.iload 4, 2) := by decide +kernel
theorem dX12_choosesHouse_91 : decode cX12_choosesHouse 91 = .ok (.ior, 1) := by decide +kernel
theorem dX12_choosesHouse_92 : decode cX12_choosesHouse 92 = .ok (.iload_n 1, 1) := by decide +kernel
theorem dX12_choosesHouse_93 : decode cX12_choosesHouse 93 = .ok (.invokestatic 406, 3) := by decide +kernel
theorem dX12_choosesHouse_96 : decode cX12_choosesHouse 96 = .ok (.istore 9, 2) := by decide +kernel
theorem dX12_choosesHouse_98 : decode cX12_choosesHouse 98 = .ok (.aload_n 0, 1) := by decide +kernel
theorem dX12_choosesHouse_99 : decode cX12_choosesHouse 99 = .ok (.getfield 107, 3) := by decide +kernel
theorem dX12_choosesHouse_102 : decode cX12_choosesHouse 102 = .ok (.iload 9, 2) := by decide +kernel
theorem dX12_choosesHouse_104 : decode cX12_choosesHouse 104 = .ok (.aload_n 0, 1) := by decide +kernel
theorem dX12_choosesHouse_105 : decode cX12_choosesHouse 105 = .ok (.getfield 107, 3) := by decide +kernel
theorem dX12_choosesHouse_108 : decode cX12_choosesHouse 108 = .ok (.iload 9, 2) := by decide +kernel
theorem dX12_choosesHouse_110 : decode cX12_choosesHouse 110 = .ok (.iaload, 1) := by decide +kernel
theorem dX12_choosesHouse_111 : decode cX12_choosesHouse 111 = .ok (.iload 8, 2) := by decide +kernel
theorem dX12_choosesHouse_113 : decode cX12_choosesHouse 113 = .ok (.invokestatic 333, 3) := by decide +kernel
theorem dX12_choosesHouse_116 : decode cX12_choosesHouse 116 = .ok (.iastore, 1) := by decide +kernel
theorem dX12_choosesHouse_117 : decode cX12_choosesHouse 117 = .ok (.iinc 6 1, 3) := by decide +kernel
theorem dX12_choosesHouse_120 : decode cX12_choosesHouse 120 = .ok (.goto (-91), 3) := by decide +kernel
theorem dX12_choosesHouse_123 : decode cX12_choosesHouse 123 = .ok (.iinc 5 1, 3) := by decide +kernel
theorem dX12_choosesHouse_126 : decode cX12_choosesHouse 126 = .ok (.goto (-108), 3) := by decide +kernel
theorem dX12_choosesHouse_129 : decode cX12_choosesHouse 129 = .ok (.return_, 1) := by decide +kernel
theorem dX12_leastOfAll_0 : decode cX12_leastOfAll 0 = .ok (.iconst 0, 1) := by decide +kernel
theorem dX12_leastOfAll_1 : decode cX12_leastOfAll 1 = .ok (.istore_n 2, 1) := by decide +kernel
theorem dX12_leastOfAll_2 : decode cX12_leastOfAll 2 = .ok (.iload_n 2, 1) := by decide +kernel
theorem dX12_leastOfAll_3 : decode cX12_leastOfAll 3 = .ok (.sipush 1088, 3) := by decide +kernel
theorem dX12_leastOfAll_6 : decode cX12_leastOfAll 6 = .ok (.if_icmp .ge 18, 3) := by decide +kernel
theorem dX12_leastOfAll_9 : decode cX12_leastOfAll 9 = .ok (.aload_n 0, 1) := by decide +kernel
theorem dX12_leastOfAll_10 : decode cX12_leastOfAll 10 = .ok (.getfield 104, 3) := by decide +kernel
theorem dX12_leastOfAll_13 : decode cX12_leastOfAll 13 = .ok (.iload_n 2, 1) := by decide +kernel
theorem dX12_leastOfAll_14 : decode cX12_leastOfAll 14 = .ok (.ldc_w 409, 3) := by decide +kernel
theorem dX12_leastOfAll_17 : decode cX12_leastOfAll 17 = .ok (.iastore, 1) := by decide +kernel
theorem dX12_leastOfAll_18 : decode cX12_leastOfAll 18 = .ok (.iinc 2 1, 3) := by decide +kernel
theorem dX12_leastOfAll_21 : decode cX12_leastOfAll 21 = .ok (.goto (-19), 3) := by decide +kernel
theorem dX12_leastOfAll_24 : decode cX12_leastOfAll 24 = .ok (.aload_n 0, 1) := by decide +kernel
theorem dX12_leastOfAll_25 : decode cX12_leastOfAll 25 = .ok (.getfield 104, 3) := by decide +kernel
theorem dX12_leastOfAll_28 : decode cX12_leastOfAll 28 = .ok (.iconst 0, 1) := by decide +kernel
theorem dX12_leastOfAll_29 : decode cX12_leastOfAll 29 = .ok (.bipush 16, 2) := by decide +kernel
theorem dX12_leastOfAll_31 : decode cX12_leastOfAll 31 = .ok (.invokestatic 406, 3) := by decide +kernel
theorem dX12_leastOfAll_34 : decode cX12_leastOfAll 34 = .ok (.iconst 0, 1) := by decide +kernel
theorem dX12_leastOfAll_35 : decode cX12_leastOfAll 35 = .ok (.iastore, 1) := by decide +kernel
theorem dX12_leastOfAll_36 : decode cX12_leastOfAll 36 = .ok (.iconst 0, 1) := by decide +kernel
theorem dX12_leastOfAll_37 : decode cX12_leastOfAll 37 = .ok (.istore_n 2, 1) := by decide +kernel
theorem dX12_leastOfAll_38 : decode cX12_leastOfAll 38 = .ok (.iload_n 2, 1) := by decide +kernel
theorem dX12_leastOfAll_39 : decode cX12_leastOfAll 39 = .ok (.bipush 12, 2) := by decide +kernel
theorem dX12_leastOfAll_41 : decode cX12_leastOfAll 41 = .ok (.if_icmp .ge 92, 3) := by decide +kernel
theorem dX12_leastOfAll_44 : decode cX12_leastOfAll 44 = .ok (.iconst 0, 1) := by decide +kernel
theorem dX12_leastOfAll_45 : decode cX12_leastOfAll 45 = .ok (.istore_n 3, 1) := by decide +kernel
theorem dX12_leastOfAll_46 : decode cX12_leastOfAll 46 = .ok (.iload_n 3, 1) := by decide +kernel
theorem dX12_leastOfAll_47 : decode cX12_leastOfAll 47 = .ok (.sipush 1088, 3) := by decide +kernel
theorem dX12_leastOfAll_50 : decode cX12_leastOfAll 50 = .ok (.if_icmp .ge 21, 3) := by decide +kernel
theorem dX12_leastOfAll_53 : decode cX12_leastOfAll 53 = .ok (.aload_n 0, 1) := by decide +kernel
theorem dX12_leastOfAll_54 : decode cX12_leastOfAll 54 = .ok (.getfield 107, 3) := by decide +kernel
theorem dX12_leastOfAll_57 : decode cX12_leastOfAll 57 = .ok (.iload_n 3, 1) := by decide +kernel
theorem dX12_leastOfAll_58 : decode cX12_leastOfAll 58 = .ok (.aload_n 0, 1) := by decide +kernel
theorem dX12_leastOfAll_59 : decode cX12_leastOfAll 59 = .ok (.getfield 104, 3) := by decide +kernel
theorem dX12_leastOfAll_62 : decode cX12_leastOfAll 62 = .ok (.iload_n 3, 1) := by decide +kernel
theorem dX12_leastOfAll_63 : decode cX12_leastOfAll 63 = .ok (.iaload, 1) := by decide +kernel
theorem dX12_leastOfAll_64 : decode cX12_leastOfAll 64 = .ok (.iastore, 1) := by decide +kernel
theorem dX12_leastOfAll_65 : decode cX12_leastOfAll 65 = .ok (.iinc 3 1, 3) := by decide +kernel
theorem dX12_leastOfAll_68 : decode cX12_leastOfAll 68 = .ok (.goto (-22), 3) := by decide +kernel
theorem dX12_leastOfAll_71 : decode cX12_leastOfAll 71 = .ok (.iconst 0, 1) := by decide +kernel
theorem dX12_leastOfAll_72 : decode cX12_leastOfAll 72 = .ok (.istore_n 3, 1) := by decide +kernel
theorem dX12_leastOfAll_73 : decode cX12_leastOfAll 73 = .ok (.iload_n 3, 1) := by decide +kernel
theorem dX12_leastOfAll_74 : decode cX12_leastOfAll 74 = .ok (.bipush 16, 2) := by decide +kernel
theorem dX12_leastOfAll_76 : decode cX12_leastOfAll 76 = .ok (.if_icmp .ge 24, 3) := by decide +kernel
theorem dX12_leastOfAll_79 : decode cX12_leastOfAll 79 = .ok (.aload_n 0, 1) := by decide +kernel
theorem dX12_leastOfAll_80 : decode cX12_leastOfAll 80 = .ok (.iload_n 3, 1) := by decide +kernel
theorem dX12_leastOfAll_81 : decode cX12_leastOfAll 81 = .ok (.invokevirtual 159, 3) := by decide +kernel
theorem dX12_leastOfAll_84 : decode cX12_leastOfAll 84 = .ok (.ifCond .eq 10, 3) := by decide +kernel
theorem dX12_leastOfAll_87 : decode cX12_leastOfAll 87 = .ok (.aload_n 0, 1) := by decide +kernel
theorem dX12_leastOfAll_88 : decode cX12_leastOfAll 88 = .ok (.iload_n 3, 1) := by decide +kernel
theorem dX12_leastOfAll_89 : decode cX12_leastOfAll 89 = .ok (.iload_n 2, 1) := by decide +kernel
theorem dX12_leastOfAll_90 : decode cX12_leastOfAll 90 = .ok (.iload_n 1, 1) := by decide +kernel
theorem dX12_leastOfAll_91 : decode cX12_leastOfAll 91 = .ok (.invokevirtual 410, 3) := by decide +kernel
theorem dX12_leastOfAll_94 : decode cX12_leastOfAll 94 = .ok (.iinc 3 1, 3) := by decide +kernel
theorem dX12_leastOfAll_97 : decode cX12_leastOfAll 97 = .ok (.goto (-24), 3) := by decide +kernel
theorem dX12_leastOfAll_100 : decode cX12_leastOfAll 100 = .ok (.iconst 0, 1) := by decide +kernel
theorem dX12_leastOfAll_101 : decode cX12_leastOfAll 101 = .ok (.istore_n 3, 1) := by decide +kernel
theorem dX12_leastOfAll_102 : decode cX12_leastOfAll 102 = .ok (.iload_n 3, 1) := by decide +kernel
theorem dX12_leastOfAll_103 : decode cX12_leastOfAll 103 = .ok (.sipush 1088, 3) := by decide +kernel
theorem dX12_leastOfAll_106 : decode cX12_leastOfAll 106 = .ok (.if_icmp .ge 21, 3) := by decide +kernel
theorem dX12_leastOfAll_109 : decode cX12_leastOfAll 109 = .ok (.aload_n 0, 1) := by decide +kernel
theorem dX12_leastOfAll_110 : decode cX12_leastOfAll 110 = .ok (.getfield 104, 3) := by decide +kernel
theorem dX12_leastOfAll_113 : decode cX12_leastOfAll 113 = .ok (.iload_n 3, 1) := by decide +kernel
theorem dX12_leastOfAll_114 : decode cX12_leastOfAll 114 = .ok (.aload_n 0, 1) := by decide +kernel
theorem dX12_leastOfAll_115 : decode cX12_leastOfAll 115 = .ok (.getfield 107, 3) := by decide +kernel
theorem dX12_leastOfAll_118 : decode cX12_leastOfAll 118 = .ok (.iload_n 3, 1) := by decide +kernel
theorem dX12_leastOfAll_119 : decode cX12_leastOfAll 119 = .ok (.iaload, 1) := by decide +kernel
theorem dX12_leastOfAll_120 : decode cX12_leastOfAll 120 = .ok (.iastore, 1) := by decide +kernel
theorem dX12_leastOfAll_121 : decode cX12_leastOfAll 121 = .ok (.iinc 3 1, 3) := by decide +kernel
theorem dX12_leastOfAll_124 : decode cX12_leastOfAll 124 = .ok (.goto (-22), 3) := by decide +kernel
theorem dX12_leastOfAll_127 : decode cX12_leastOfAll 127 = .ok (.iinc 2 1, 3) := by decide +kernel
theorem dX12_leastOfAll_130 : decode cX12_leastOfAll 130 = .ok (.goto (-92), 3) := by decide +kernel
theorem dX12_leastOfAll_133 : decode cX12_leastOfAll 133 = .ok (.ldc_w 409, 3) := by decide +kernel
theorem dX12_leastOfAll_136 : decode cX12_leastOfAll 136 = .ok (.istore_n 2, 1) := by decide +kernel
theorem dX12_leastOfAll_137 : decode cX12_leastOfAll 137 = .ok (.iconst 0, 1) := by decide +kernel
theorem dX12_leastOfAll_138 : decode cX12_leastOfAll 138 = .ok (.istore_n 3, 1) := by decide +kernel
theorem dX12_leastOfAll_139 : decode cX12_leastOfAll 139 = .ok (.iload_n 3, 1) := by decide +kernel
theorem dX12_leastOfAll_140 : decode cX12_leastOfAll 140 = .ok (.bipush 16, 2) := by decide +kernel
theorem dX12_leastOfAll_142 : decode cX12_leastOfAll 142 = .ok (.if_icmp .ge 28, 3) := by decide +kernel
theorem dX12_leastOfAll_145 : decode cX12_leastOfAll 145 = .ok (.iload_n 2, 1) := by decide +kernel
theorem dX12_leastOfAll_146 : decode cX12_leastOfAll 146 = .ok (.aload_n 0, 1) := by decide +kernel
theorem dX12_leastOfAll_147 : decode cX12_leastOfAll 147 = .ok (.getfield 104, 3) := by decide +kernel
theorem dX12_leastOfAll_150 : decode cX12_leastOfAll 150 = .ok (.iconst 1, 1) := by decide +kernel
theorem dX12_leastOfAll_151 : decode cX12_leastOfAll 151 = .ok (.iload_n 1, 1) := by decide +kernel
theorem dX12_leastOfAll_152 : decode cX12_leastOfAll 152 = .ok (.ishl, 1) := by decide +kernel
theorem dX12_leastOfAll_153 : decode cX12_leastOfAll 153 = .ok (.iconst 1, 1) := by decide +kernel
theorem dX12_leastOfAll_154 : decode cX12_leastOfAll 154 = .ok (.isub, 1) := by decide +kernel
theorem dX12_leastOfAll_155 : decode cX12_leastOfAll 155 = .ok (.iload_n 3, 1) := by decide +kernel
theorem dX12_leastOfAll_156 : decode cX12_leastOfAll 156 = .ok (.invokestatic 406, 3) := by decide +kernel
theorem dX12_leastOfAll_159 : decode cX12_leastOfAll 159 = .ok (.iaload, 1) := by decide +kernel
theorem dX12_leastOfAll_160 : decode cX12_leastOfAll 160 = .ok (.invokestatic 333, 3) := by decide +kernel
theorem dX12_leastOfAll_163 : decode cX12_leastOfAll 163 = .ok (.istore_n 2, 1) := by decide +kernel
theorem dX12_leastOfAll_164 : decode cX12_leastOfAll 164 = .ok (.iinc 3 1, 3) := by decide +kernel
theorem dX12_leastOfAll_167 : decode cX12_leastOfAll 167 = .ok (.goto (-28), 3) := by decide +kernel
theorem dX12_leastOfAll_170 : decode cX12_leastOfAll 170 = .ok (.iload_n 2, 1) := by decide +kernel
theorem dX12_leastOfAll_171 : decode cX12_leastOfAll 171 = .ok (.ireturn, 1) := by decide +kernel
theorem dX12_shortest_0 : decode cX12_shortest 0 = .ok (.iload_n 1, 1) := by decide +kernel
theorem dX12_shortest_1 : decode cX12_shortest 1 = .ok (.iconst 1, 1) := by decide +kernel
theorem dX12_shortest_2 : decode cX12_shortest 2 = .ok (.bipush 6, 2) := by decide +kernel
theorem dX12_shortest_4 : decode cX12_shortest 4 = .ok (.invokestatic 134, 3) := by decide +kernel
theorem dX12_shortest_7 : decode cX12_shortest 7 = .ok (.ifCond .eq 22, 3) := by decide +kernel
theorem dX12_shortest_10 : decode cX12_shortest 10 = .ok (.iload_n 2, 1) := by decide +kernel
theorem dX12_shortest_11 : decode cX12_shortest 11 = .ok (.iconst 0, 1) := by decide +kernel
theorem dX12_shortest_12 : decode cX12_shortest 12 = .ok (.iconst 1, 1) := by decide +kernel
theorem dX12_shortest_13 : decode cX12_shortest 13 = .ok (.invokestatic 134, 3) := by decide +kernel
theorem dX12_shortest_16 : decode cX12_shortest 16 = .ok (.ifCond .eq 13, 3) := by decide +kernel
theorem dX12_shortest_19 : decode cX12_shortest 19 = .ok (.iconst 2, 1) := by decide +kernel
theorem dX12_shortest_20 : decode cX12_shortest 20 = .ok (.iload_n 1, 1) := by decide +kernel
theorem dX12_shortest_21 : decode cX12_shortest 21 = .ok (.imul, 1) := by decide +kernel
theorem dX12_shortest_22 : decode cX12_shortest 22 = .ok (.aload_n 0, 1) := by decide +kernel
theorem dX12_shortest_23 : decode cX12_shortest 23 = .ok (.getfield 162, 3) := by decide +kernel
theorem dX12_shortest_26 : decode cX12_shortest 26 = .ok (.if_icmp .le 5, 3) := by decide +kernel
theorem dX12_shortest_29 : decode cX12_shortest 29 = .ok (.iconst (-1), 1) := by decide +kernel
theorem dX12_shortest_30 : decode cX12_shortest 30 = .ok (.ireturn, 1) := by decide +kernel
theorem dX12_shortest_31 : decode cX12_shortest 31 = .ok (.aload_n 0, 1) := by decide +kernel
theorem dX12_shortest_32 : decode cX12_shortest 32 = .ok (.iconst 0, 1) := by decide +kernel
theorem dX12_shortest_33 : decode cX12_shortest 33 = .ok (.putfield 162, 3) := by decide +kernel
theorem dX12_shortest_36 : decode cX12_shortest 36 = .ok (.iconst 0, 1) := by decide +kernel
theorem dX12_shortest_37 : decode cX12_shortest 37 = .ok (.istore_n 3, 1) := by decide +kernel
theorem dX12_shortest_38 : decode cX12_shortest 38 = .ok (.iload_n 3, 1) := by decide +kernel
theorem dX12_shortest_39 : decode cX12_shortest 39 = .ok (.iload_n 1, 1) := by decide +kernel
theorem dX12_shortest_40 : decode cX12_shortest 40 = .ok (.if_icmp .ge 42, 3) := by decide +kernel
theorem dX12_shortest_43 : decode cX12_shortest 43 = .ok (.aload_n 0, 1) := by decide +kernel
theorem dX12_shortest_44 : decode cX12_shortest 44 = .ok (.aload_n 0, 1) := by decide +kernel
theorem dX12_shortest_45 : decode cX12_shortest 45 = .ok (.iconst 2, 1) := by decide +kernel
theorem dX12_shortest_46 : decode cX12_shortest 46 = .ok (.iload_n 3, 1) := by decide +kernel
theorem dX12_shortest_47 : decode cX12_shortest 47 = .ok (.imul, 1) := by decide +kernel
theorem dX12_shortest_48 : decode cX12_shortest 48 = .ok (.invokevirtual 400, 3) := by decide +kernel
theorem dX12_shortest_51 : decode cX12_shortest 51 = .ok (.invokevirtual 159, 3) := by decide +kernel
theorem dX12_shortest_54 : decode cX12_shortest 54 = .ok (.ifCond .eq 19, 3) := by decide +kernel
theorem dX12_shortest_57 : decode cX12_shortest 57 = .ok (.aload_n 0, 1) := by decide +kernel
theorem dX12_shortest_58 : decode cX12_shortest 58 = .ok (.aload_n 0, 1) := by decide +kernel
theorem dX12_shortest_59 : decode cX12_shortest 59 = .ok (.iconst 2, 1) := by decide +kernel
theorem dX12_shortest_60 : decode cX12_shortest 60 = .ok (.iload_n 3, 1) := by decide +kernel
theorem dX12_shortest_61 : decode cX12_shortest 61 = .ok (.imul, 1) := by decide +kernel
theorem dX12_shortest_62 : decode cX12_shortest 62 = .ok (.iconst 1, 1) := by decide +kernel
theorem dX12_shortest_63 : decode cX12_shortest 63 = .ok (.iadd, 1) := by decide +kernel
theorem dX12_shortest_64 : decode cX12_shortest 64 = .ok (.invokevirtual 400, 3) := by decide +kernel
theorem dX12_shortest_67 : decode cX12_shortest 67 = .ok (.invokevirtual 145, 3) := by decide +kernel
theorem dX12_shortest_70 : decode cX12_shortest 70 = .ok (.ifCond .ne 6, 3) := by decide +kernel
theorem dX12_shortest_73 : decode cX12_shortest 73 = .ok (.bipush (-3), 2) := by decide +kernel
theorem dX12_shortest_75 : decode cX12_shortest 75 = .ok (.ireturn, 1) := by decide +kernel
theorem dX12_shortest_76 : decode cX12_shortest 76 = .ok (.iinc 3 1, 3) := by decide +kernel
theorem dX12_shortest_79 : decode cX12_shortest 79 = .ok (.goto (-41), 3) := by decide +kernel
theorem dX12_shortest_82 : decode cX12_shortest 82 = .ok (.aload_n 0, 1) := by decide +kernel
theorem dX12_shortest_83 : decode cX12_shortest 83 = .ok (.iload_n 1, 1) := by decide +kernel
theorem dX12_shortest_84 : decode cX12_shortest 84 = .ok (.invokevirtual 413, 3) := by decide +kernel
theorem dX12_shortest_87 : decode cX12_shortest 87 = .ok (.istore_n 3, 1) := by decide +kernel
theorem dX12_shortest_88 : decode cX12_shortest 88 = .ok (.iload_n 3, 1) := by decide +kernel
theorem dX12_shortest_89 : decode cX12_shortest 89 = .ok (.ldc_w 409, 3) := by decide +kernel
theorem dX12_shortest_92 : decode cX12_shortest 92 = .ok (.if_icmp .lt 8, 3) := by decide +kernel
theorem dX12_shortest_95 : decode cX12_shortest 95 = .ok (.bipush (-2), 2) := by decide +kernel
theorem dX12_shortest_97 : decode cX12_shortest 97 = .ok (.goto 18, 3) := by decide +kernel
theorem dX12_shortest_100 : decode cX12_shortest 100 = .ok (.iload_n 2, 1) := by decide +kernel
theorem dX12_shortest_101 : decode cX12_shortest 101 = .ok (.ifCond .ne 10, 3) := by decide +kernel
theorem dX12_shortest_104 : decode cX12_shortest 104 = .ok (.iload_n 3, 1) := by decide +kernel
theorem dX12_shortest_105 : decode cX12_shortest 105 = .ok (.bipush 32, 2) := by decide +kernel
theorem dX12_shortest_107 : decode cX12_shortest 107 = .ok (.idiv, 1) := by decide +kernel
theorem dX12_shortest_108 : decode cX12_shortest 108 = .ok (.goto 7, 3) := by decide +kernel
theorem dX12_shortest_111 : decode cX12_shortest 111 = .ok (.iload_n 3, 1) := by decide +kernel
theorem dX12_shortest_112 : decode cX12_shortest 112 = .ok (.bipush 32, 2) := by decide +kernel
theorem dX12_shortest_114 : decode cX12_shortest 114 = .ok (.irem, 1) := by decide +kernel
theorem dX12_shortest_115 : decode cX12_shortest 115 = .ok (.ireturn, 1) := by decide +kernel
theorem dX12_bestSet_0 : decode cX12_bestSet 0 = .ok (.iconst 0, 1) := by decide +kernel
theorem dX12_bestSet_1 : decode cX12_bestSet 1 = .ok (.istore_n 1, 1) := by decide +kernel
theorem dX12_bestSet_2 : decode cX12_bestSet 2 = .ok (.iconst 0, 1) := by decide +kernel
theorem dX12_bestSet_3 : decode cX12_bestSet 3 = .ok (.istore_n 2, 1) := by decide +kernel
theorem dX12_bestSet_4 : decode cX12_bestSet 4 = .ok (.iload_n 2, 1) := by decide +kernel
theorem dX12_bestSet_5 : decode cX12_bestSet 5 = .ok (.bipush 16, 2) := by decide +kernel
theorem dX12_bestSet_7 : decode cX12_bestSet 7 = .ok (.if_icmp .ge 41, 3) := by decide +kernel
theorem dX12_bestSet_10 : decode cX12_bestSet 10 = .ok (.aload_n 0, 1) := by decide +kernel
theorem dX12_bestSet_11 : decode cX12_bestSet 11 = .ok (.getfield 110, 3) := by decide +kernel
theorem dX12_bestSet_14 : decode cX12_bestSet 14 = .ok (.iload_n 2, 1) := by decide +kernel
theorem dX12_bestSet_15 : decode cX12_bestSet 15 = .ok (.aload_n 0, 1) := by decide +kernel
theorem dX12_bestSet_16 : decode cX12_bestSet 16 = .ok (.iload_n 2, 1) := by decide +kernel
theorem dX12_bestSet_17 : decode cX12_bestSet 17 = .ok (.invokevirtual 159, 3) := by decide +kernel
theorem dX12_bestSet_20 : decode cX12_bestSet 20 = .ok (.ifCond .eq 11, 3) := by decide +kernel
theorem dX12_bestSet_23 : decode cX12_bestSet 23 = .ok (.aload_n 0, 1) := by decide +kernel
theorem dX12_bestSet_24 : decode cX12_bestSet 24 = .ok (.iload_n 2, 1) := by decide +kernel
theorem dX12_bestSet_25 : decode cX12_bestSet 25 = .ok (.invokevirtual 374, 3) := by decide +kernel
theorem dX12_bestSet_28 : decode cX12_bestSet 28 = .ok (.goto 4, 3) := by decide +kernel
theorem dX12_bestSet_31 : decode cX12_bestSet 31 = .ok (.iconst 0, 1) := by decide +kernel
theorem dX12_bestSet_32 : decode cX12_bestSet 32 = .ok (.iastore, 1) := by decide +kernel
theorem dX12_bestSet_33 : decode cX12_bestSet 33 = .ok (.iload_n 1, 1) := by decide +kernel
theorem dX12_bestSet_34 : decode cX12_bestSet 34 = .ok (.aload_n 0, 1) := by decide +kernel
theorem dX12_bestSet_35 : decode cX12_bestSet 35 = .ok (.getfield 110, 3) := by decide +kernel
theorem dX12_bestSet_38 : decode cX12_bestSet 38 = .ok (.iload_n 2, 1) := by decide +kernel
theorem dX12_bestSet_39 : decode cX12_bestSet 39 = .ok (.iaload, 1) := by decide +kernel
theorem dX12_bestSet_40 : decode cX12_bestSet 40 = .ok (.ior, 1) := by decide +kernel
theorem dX12_bestSet_41 : decode cX12_bestSet 41 = .ok (.istore_n 1, 1) := by decide +kernel
theorem dX12_bestSet_42 : decode cX12_bestSet 42 = .ok (.iinc 2 1, 3) := by decide +kernel
theorem dX12_bestSet_45 : decode cX12_bestSet 45 = .ok (.goto (-41), 3) := by decide +kernel
theorem dX12_bestSet_48 : decode cX12_bestSet 48 = .ok (.aload_n 0, 1) := by decide +kernel
theorem dX12_bestSet_49 : decode cX12_bestSet 49 = .ok (.getfield 138, 3) := by decide +kernel
theorem dX12_bestSet_52 : decode cX12_bestSet 52 = .ok (.istore_n 2, 1) := by decide +kernel
theorem dX12_bestSet_53 : decode cX12_bestSet 53 = .ok (.aload_n 0, 1) := by decide +kernel
theorem dX12_bestSet_54 : decode cX12_bestSet 54 = .ok (.getfield 114, 3) := by decide +kernel
theorem dX12_bestSet_57 : decode cX12_bestSet 57 = .ok (.iconst 0, 1) := by decide +kernel
theorem dX12_bestSet_58 : decode cX12_bestSet 58 = .ok (.iconst 0, 1) := by decide +kernel
theorem dX12_bestSet_59 : decode cX12_bestSet 59 = .ok (.iastore, 1) := by decide +kernel
theorem dX12_bestSet_60 : decode cX12_bestSet 60 = .ok (.iconst 1, 1) := by decide +kernel
theorem dX12_bestSet_61 : decode cX12_bestSet 61 = .ok (.istore_n 3, 1) := by decide +kernel
theorem dX12_bestSet_62 : decode cX12_bestSet 62 = .ok (.iload_n 3, 1) := by decide +kernel
theorem dX12_bestSet_63 : decode cX12_bestSet 63 = .ok (.ldc 113, 2) := by decide +kernel
theorem dX12_bestSet_65 : decode cX12_bestSet 65 = .ok (.if_icmp .ge 35, 3) := by decide +kernel
theorem dX12_bestSet_68 : decode cX12_bestSet 68 = .ok (.aload_n 0, 1) := by decide +kernel
theorem dX12_bestSet_69 : decode cX12_bestSet 69 = .ok (.getfield 114, 3) := by decide +kernel
theorem dX12_bestSet_72 : decode cX12_bestSet 72 = .ok (.iload_n 3, 1) := by decide +kernel
theorem dX12_bestSet_73 : decode cX12_bestSet 73 = .ok (.aload_n 0, 1) := by decide +kernel
theorem dX12_bestSet_74 : decode cX12_bestSet 74 = .ok (.getfield 114, 3) := by decide +kernel
theorem dX12_bestSet_77 : decode cX12_bestSet 77 = .ok (.iload_n 3, 1) := by decide +kernel
theorem dX12_bestSet_78 : decode cX12_bestSet 78 = .ok (.iload_n 3, 1) := by decide +kernel
theorem dX12_bestSet_79 : decode cX12_bestSet 79 = .ok (.iconst 1, 1) := by decide +kernel
theorem dX12_bestSet_80 : decode cX12_bestSet 80 = .ok (.isub, 1) := by decide +kernel
theorem dX12_bestSet_81 : decode cX12_bestSet 81 = .ok (.iand, 1) := by decide +kernel
theorem dX12_bestSet_82 : decode cX12_bestSet 82 = .ok (.iaload, 1) := by decide +kernel
theorem dX12_bestSet_83 : decode cX12_bestSet 83 = .ok (.aload_n 0, 1) := by decide +kernel
theorem dX12_bestSet_84 : decode cX12_bestSet 84 = .ok (.getfield 110, 3) := by decide +kernel
theorem dX12_bestSet_87 : decode cX12_bestSet 87 = .ok (.iload_n 3, 1) := by decide +kernel
theorem dX12_bestSet_88 : decode cX12_bestSet 88 = .ok (.invokestatic 416, 3) := by decide +kernel
theorem dX12_bestSet_91 : decode cX12_bestSet 91 = .ok (.iaload, 1) := by decide +kernel
theorem dX12_bestSet_92 : decode cX12_bestSet 92 = .ok (.ior, 1) := by decide +kernel
theorem dX12_bestSet_93 : decode cX12_bestSet 93 = .ok (.iastore, 1) := by decide +kernel
theorem dX12_bestSet_94 : decode cX12_bestSet 94 = .ok (.iinc 3 1, 3) := by decide +kernel
theorem dX12_bestSet_97 : decode cX12_bestSet 97 = .ok (.goto (-35), 3) := by decide +kernel
theorem dX12_bestSet_100 : decode cX12_bestSet 100 = .ok (.ldc_w 399, 3) := by decide +kernel
theorem dX12_bestSet_103 : decode cX12_bestSet 103 = .ok (.istore_n 3, 1) := by decide +kernel
theorem dX12_bestSet_104 : decode cX12_bestSet 104 = .ok (.iload_n 3, 1) := by decide +kernel
theorem dX12_bestSet_105 : decode cX12_bestSet 105 = .ok (.ifCond .lt 43, 3) := by decide +kernel
theorem dX12_bestSet_108 : decode cX12_bestSet 108 = .ok (.iload_n 3, 1) := by decide +kernel
theorem dX12_bestSet_109 : decode cX12_bestSet 109 = .ok (.aload_n 0, 1) := by decide +kernel
theorem dX12_bestSet_110 : decode cX12_bestSet 110 = .ok (.getfield 138, 3) := by decide +kernel
theorem dX12_bestSet_113 : decode cX12_bestSet 113 = .ok (.iconst (-1), 1) := by decide +kernel
theorem dX12_bestSet_114 : decode cX12_bestSet 114 = .ok (.ixor, 1) := by decide +kernel
theorem dX12_bestSet_115 : decode cX12_bestSet 115 = .ok (.iand, 1) := by decide +kernel
theorem dX12_bestSet_116 : decode cX12_bestSet 116 = .ok (.ifCond .ne 26, 3) := by decide +kernel
theorem dX12_bestSet_119 : decode cX12_bestSet 119 = .ok (.aload_n 0, 1) := by decide +kernel
theorem dX12_bestSet_120 : decode cX12_bestSet 120 = .ok (.getfield 114, 3) := by decide +kernel
theorem dX12_bestSet_123 : decode cX12_bestSet 123 = .ok (.iload_n 3, 1) := by decide +kernel
theorem dX12_bestSet_124 : decode cX12_bestSet 124 = .ok (.iaload, 1) := by decide +kernel
theorem dX12_bestSet_125 : decode cX12_bestSet 125 = .ok (.iload_n 1, 1) := by decide +kernel
theorem dX12_bestSet_126 : decode cX12_bestSet 126 = .ok (.if_icmp .ne 16, 3) := by decide +kernel
theorem dX12_bestSet_129 : decode cX12_bestSet 129 = .ok (.iload_n 3, 1) := by decide +kernel
theorem dX12_bestSet_130 : decode cX12_bestSet 130 = .ok (.invokestatic 320, 3) := by decide +kernel
theorem dX12_bestSet_133 : decode cX12_bestSet 133 = .ok (.iload_n 2, 1) := by decide +kernel
theorem dX12_bestSet_134 : decode cX12_bestSet 134 = .ok (.invokestatic 320, 3) := by decide +kernel
theorem dX12_bestSet_137 : decode cX12_bestSet 137 = .ok (.if_icmp .gt 5, 3) := by decide +kernel
theorem dX12_bestSet_140 : decode cX12_bestSet 140 = .ok (.iload_n 3, 1) := by decide +kernel
theorem dX12_bestSet_141 : decode cX12_bestSet 141 = .ok (.istore_n 2, 1) := by decide +kernel
theorem dX12_bestSet_142 : decode cX12_bestSet 142 = .ok (.iinc 3 (-1), 3) := by decide +kernel
theorem dX12_bestSet_145 : decode cX12_bestSet 145 = .ok (.goto (-41), 3) := by decide +kernel
theorem dX12_bestSet_148 : decode cX12_bestSet 148 = .ok (.iload_n 2, 1) := by decide +kernel
theorem dX12_bestSet_149 : decode cX12_bestSet 149 = .ok (.ireturn, 1) := by decide +kernel
theorem dX12_second_0 : decode cX12_second 0 = .ok (.iload_n 1, 1) := by decide +kernel
theorem dX12_second_1 : decode cX12_second 1 = .ok (.iconst 0, 1) := by decide +kernel
theorem dX12_second_2 : decode cX12_second 2 = .ok (.iconst 1, 1) := by decide +kernel
theorem dX12_second_3 : decode cX12_second 3 = .ok (.invokestatic 134, 3) := by decide +kernel
theorem dX12_second_6 : decode cX12_second 6 = .ok (.ifCond .ne 5, 3) := by decide +kernel
theorem dX12_second_9 : decode cX12_second 9 = .ok (.iconst (-1), 1) := by decide +kernel
theorem dX12_second_10 : decode cX12_second 10 = .ok (.ireturn, 1) := by decide +kernel
theorem dX12_second_11 : decode cX12_second 11 = .ok (.aload_n 0, 1) := by decide +kernel
theorem dX12_second_12 : decode cX12_second 12 = .ok (.invokevirtual 419, 3) := by decide +kernel
theorem dX12_second_15 : decode cX12_second 15 = .ok (.istore_n 2, 1) := by decide +kernel
theorem dX12_second_16 : decode cX12_second 16 = .ok (.iload_n 1, 1) := by decide +kernel
theorem dX12_second_17 : decode cX12_second 17 = .ok (.ifCond .ne 10, 3) := by decide +kernel
theorem dX12_second_20 : decode cX12_second 20 = .ok (.iload_n 2, 1) := by decide +kernel
theorem dX12_second_21 : decode cX12_second 21 = .ok (.invokestatic 320, 3) := by decide +kernel
theorem dX12_second_24 : decode cX12_second 24 = .ok (.goto 4, 3) := by decide +kernel
theorem dX12_second_27 : decode cX12_second 27 = .ok (.iload_n 2, 1) := by decide +kernel
theorem dX12_second_28 : decode cX12_second 28 = .ok (.ireturn, 1) := by decide +kernel
theorem dX12_fits_0 : decode cX12_fits 0 = .ok (.iconst 0, 1) := by decide +kernel
theorem dX12_fits_1 : decode cX12_fits 1 = .ok (.istore_n 3, 1) := by decide +kernel
theorem dX12_fits_2 : decode cX12_fits 2 = .ok (.iload_n 3, 1) := by decide +kernel
theorem dX12_fits_3 : decode cX12_fits 3 = .ok (.iload_n 1, 1) := by decide +kernel
theorem dX12_fits_4 : decode cX12_fits 4 = .ok (.if_icmp .ge 39, 3) := by decide +kernel
theorem dX12_fits_7 : decode cX12_fits 7 = .ok (.aload_n 0, 1) := by decide +kernel
theorem dX12_fits_8 : decode cX12_fits 8 = .ok (.iconst 2, 1) := by decide +kernel
theorem dX12_fits_9 : decode cX12_fits 9 = .ok (.iload_n 3, 1) := by decide +kernel
theorem dX12_fits_10 : decode cX12_fits 10 = .ok (.imul, 1) := by decide +kernel
theorem dX12_fits_11 : decode cX12_fits 11 = .ok (.invokevirtual 400, 3) := by decide +kernel
theorem dX12_fits_14 : decode cX12_fits 14 = .ok (.iload_n 2, 1) := by decide +kernel
theorem dX12_fits_15 : decode cX12_fits 15 = .ok (.if_icmp .lt 7, 3) := by decide +kernel
theorem dX12_fits_18 : decode cX12_fits 18 = .ok (.iconst 1, 1) := by decide +kernel
theorem dX12_fits_19 : decode cX12_fits 19 = .ok (.goto 4, 3) := by decide +kernel
theorem dX12_fits_22 : decode cX12_fits 22 = .ok (.iconst 0, 1) := by decide +kernel
theorem dX12_fits_23 : decode cX12_fits 23 = .ok (.aload_n 0, 1) := by decide +kernel
theorem dX12_fits_24 : decode cX12_fits 24 = .ok (.iconst 2, 1) := by decide +kernel
theorem dX12_fits_25 : decode cX12_fits 25 = .ok (.iload_n 3, 1) := by decide +kernel
theorem dX12_fits_26 : decode cX12_fits 26 = .ok (.imul, 1) := by decide +kernel
theorem dX12_fits_27 : decode cX12_fits 27 = .ok (.iconst 1, 1) := by decide +kernel
theorem dX12_fits_28 : decode cX12_fits 28 = .ok (.iadd, 1) := by decide +kernel
theorem dX12_fits_29 : decode cX12_fits 29 = .ok (.invokevirtual 400, 3) := by decide +kernel
theorem dX12_fits_32 : decode cX12_fits 32 = .ok (.if_icmp .eq 5, 3) := by decide +kernel
theorem dX12_fits_35 : decode cX12_fits 35 = .ok (.iconst 0, 1) := by decide +kernel
theorem dX12_fits_36 : decode cX12_fits 36 = .ok (.ireturn, 1) := by decide +kernel
theorem dX12_fits_37 : decode cX12_fits 37 = .ok (.iinc 3 1, 3) := by decide +kernel
theorem dX12_fits_40 : decode cX12_fits 40 = .ok (.goto (-38), 3) := by decide +kernel
theorem dX12_fits_43 : decode cX12_fits 43 = .ok (.iconst 1, 1) := by decide +kernel
theorem dX12_fits_44 : decode cX12_fits 44 = .ok (.ireturn, 1) := by decide +kernel
theorem dX12_crack_0 : decode cX12_crack 0 = .ok (.iload_n 1, 1) := by decide +kernel
theorem dX12_crack_1 : decode cX12_crack 1 = .ok (.iconst 1, 1) := by decide +kernel
theorem dX12_crack_2 : decode cX12_crack 2 = .ok (.bipush 12, 2) := by decide +kernel
theorem dX12_crack_4 : decode cX12_crack 4 = .ok (.invokestatic 134, 3) := by decide +kernel
theorem dX12_crack_7 : decode cX12_crack 7 = .ok (.ifCond .eq 22, 3) := by decide +kernel
theorem dX12_crack_10 : decode cX12_crack 10 = .ok (.iload_n 2, 1) := by decide +kernel
theorem dX12_crack_11 : decode cX12_crack 11 = .ok (.iconst 0, 1) := by decide +kernel
theorem dX12_crack_12 : decode cX12_crack 12 = .ok (.iconst 1, 1) := by decide +kernel
theorem dX12_crack_13 : decode cX12_crack 13 = .ok (.invokestatic 134, 3) := by decide +kernel
theorem dX12_crack_16 : decode cX12_crack 16 = .ok (.ifCond .eq 13, 3) := by decide +kernel
theorem dX12_crack_19 : decode cX12_crack 19 = .ok (.iconst 2, 1) := by decide +kernel
theorem dX12_crack_20 : decode cX12_crack 20 = .ok (.iload_n 1, 1) := by decide +kernel
theorem dX12_crack_21 : decode cX12_crack 21 = .ok (.imul, 1) := by decide +kernel
theorem dX12_crack_22 : decode cX12_crack 22 = .ok (.aload_n 0, 1) := by decide +kernel
theorem dX12_crack_23 : decode cX12_crack 23 = .ok (.getfield 162, 3) := by decide +kernel
theorem dX12_crack_26 : decode cX12_crack 26 = .ok (.if_icmp .le 5, 3) := by decide +kernel
theorem dX12_crack_29 : decode cX12_crack 29 = .ok (.iconst (-1), 1) := by decide +kernel
theorem dX12_crack_30 : decode cX12_crack 30 = .ok (.ireturn, 1) := by decide +kernel
theorem dX12_crack_31 : decode cX12_crack 31 = .ok (.aload_n 0, 1) := by decide +kernel
theorem dX12_crack_32 : decode cX12_crack 32 = .ok (.iconst 0, 1) := by decide +kernel
theorem dX12_crack_33 : decode cX12_crack 33 = .ok (.putfield 162, 3) := by decide +kernel
theorem dX12_crack_36 : decode cX12_crack 36 = .ok (.iconst 0, 1) := by decide +kernel
theorem dX12_crack_37 : decode cX12_crack 37 = .ok (.istore_n 3, 1) := by decide +kernel
theorem dX12_crack_38 : decode cX12_crack 38 = .ok (.iload_n 3, 1) := by decide +kernel
theorem dX12_crack_39 : decode cX12_crack 39 = .ok (.iload_n 1, 1) := by decide +kernel
theorem dX12_crack_40 : decode cX12_crack 40 = .ok (.if_icmp .ge 37, 3) := by decide +kernel
theorem dX12_crack_43 : decode cX12_crack 43 = .ok (.aload_n 0, 1) := by decide +kernel
theorem dX12_crack_44 : decode cX12_crack 44 = .ok (.iconst 2, 1) := by decide +kernel
theorem dX12_crack_45 : decode cX12_crack 45 = .ok (.iload_n 3, 1) := by decide +kernel
theorem dX12_crack_46 : decode cX12_crack 46 = .ok (.imul, 1) := by decide +kernel
theorem dX12_crack_47 : decode cX12_crack 47 = .ok (.invokevirtual 400, 3) := by decide +kernel
theorem dX12_crack_50 : decode cX12_crack 50 = .ok (.bipush 12, 2) := by decide +kernel
theorem dX12_crack_52 : decode cX12_crack 52 = .ok (.if_icmp .ge 16, 3) := by decide +kernel
theorem dX12_crack_55 : decode cX12_crack 55 = .ok (.aload_n 0, 1) := by decide +kernel
theorem dX12_crack_56 : decode cX12_crack 56 = .ok (.iconst 2, 1) := by decide +kernel
theorem dX12_crack_57 : decode cX12_crack 57 = .ok (.iload_n 3, 1) := by decide +kernel
theorem dX12_crack_58 : decode cX12_crack 58 = .ok (.imul, 1) := by decide +kernel
theorem dX12_crack_59 : decode cX12_crack 59 = .ok (.iconst 1, 1) := by decide +kernel
theorem dX12_crack_60 : decode cX12_crack 60 = .ok (.iadd, 1) := by decide +kernel
theorem dX12_crack_61 : decode cX12_crack 61 = .ok (.invokevirtual 400, 3) := by decide +kernel
theorem dX12_crack_64 : decode cX12_crack 64 = .ok (.iconst 1, 1) := by decide +kernel
theorem dX12_crack_65 : decode cX12_crack 65 = .ok (.if_icmp .le 6, 3) := by decide +kernel
theorem dX12_crack_68 : decode cX12_crack 68 = .ok (.bipush (-3), 2) := by decide +kernel
theorem dX12_crack_70 : decode cX12_crack 70 = .ok (.ireturn, 1) := by decide +kernel
theorem dX12_crack_71 : decode cX12_crack 71 = .ok (.iinc 3 1, 3) := by decide +kernel
theorem dX12_crack_74 : decode cX12_crack 74 = .ok (.goto (-36), 3) := by decide +kernel
theorem dX12_crack_77 : decode cX12_crack 77 = .ok (.iconst 0, 1) := by decide +kernel
theorem dX12_crack_78 : decode cX12_crack 78 = .ok (.istore_n 3, 1) := by decide +kernel
theorem dX12_crack_79 : decode cX12_crack 79 = .ok (.iconst 0, 1) := by decide +kernel
theorem dX12_crack_80 : decode cX12_crack 80 = .ok (.istore 4, 2) := by decide +kernel
theorem dX12_crack_82 : decode cX12_crack 82 = .ok (.iconst 0, 1) := by decide +kernel
theorem dX12_crack_83 : decode cX12_crack 83 = .ok (.istore 5, 2) := by decide +kernel
theorem dX12_crack_85 : decode cX12_crack 85 = .ok (.iload 5, 2) := by decide +kernel
theorem dX12_crack_87 : decode cX12_crack 87 = .ok (.bipush 12, 2) := by decide +kernel
theorem dX12_crack_89 : decode cX12_crack 89 = .ok (.if_icmp .gt 61, 3) := by decide +kernel
theorem dX12_crack_92 : decode cX12_crack 92 = .ok (.aload_n 0, 1) := by decide +kernel
theorem dX12_crack_93 : decode cX12_crack 93 = .ok (.iload_n 1, 1) := by decide +kernel
theorem dX12_crack_94 : decode cX12_crack 94 = .ok (.iload 5, 2) := by decide +kernel
theorem dX12_crack_96 : decode cX12_crack 96 = .ok (.invokevirtual 422, 3) := by decide +kernel
theorem dX12_crack_99 : decode cX12_crack 99 = .ok (.ifCond .ne 6, 3) := by decide +kernel
theorem dX12_crack_102 : decode cX12_crack 102 = .ok (.goto 42, 3) := by decide +kernel
theorem dX12_crack_105 : decode cX12_crack 105 = .ok (.iload_n 3, 1) := by decide +kernel
theorem dX12_crack_106 : decode cX12_crack 106 = .ok (.iconst 1, 1) := by decide +kernel
theorem dX12_crack_107 : decode cX12_crack 107 = .ok (.iload 5, 2) := by decide +kernel
theorem dX12_crack_109 : decode cX12_crack 109 = .ok (.ishl, 1) := by decide +kernel
theorem dX12_crack_110 : decode cX12_crack 110 = .ok (.ior, 1) := by decide +kernel
theorem dX12_crack_111 : decode cX12_crack 111 = .ok (.istore_n 3, 1) := by decide +kernel
theorem dX12_crack_112 : decode cX12_crack 112 = .ok (.iload 5, 2) := by decide +kernel
theorem dX12_crack_114 : decode cX12_crack 114 = .ok (.bipush 12, 2) := by decide +kernel
theorem dX12_crack_116 : decode cX12_crack 116 = .ok (.if_icmp .ge 28, 3) := by decide +kernel
theorem dX12_crack_119 : decode cX12_crack 119 = .ok (.aload_n 0, 1) := by decide +kernel
theorem dX12_crack_120 : decode cX12_crack 120 = .ok (.getfield 19, 3) := by decide +kernel
theorem dX12_crack_123 : decode cX12_crack 123 = .ok (.iload 5, 2) := by decide +kernel
theorem dX12_crack_125 : decode cX12_crack 125 = .ok (.iaload, 1) := by decide +kernel
theorem dX12_crack_126 : decode cX12_crack 126 = .ok (.iconst (-1), 1) := by decide +kernel
theorem dX12_crack_127 : decode cX12_crack 127 = .ok (.if_icmp .eq 17, 3) := by decide +kernel
theorem dX12_crack_130 : decode cX12_crack 130 = .ok (.iload 4, 2) := by decide +kernel
theorem dX12_crack_132 : decode cX12_crack 132 = .ok (.iconst 1, 1) := by decide +kernel
theorem dX12_crack_133 : decode cX12_crack 133 = .ok (.aload_n 0, 1) := by decide +kernel
theorem dX12_crack_134 : decode cX12_crack 134 = .ok (.getfield 19, 3) := by decide +kernel
theorem dX12_crack_137 : decode cX12_crack 137 = .ok (.iload 5, 2) := by decide +kernel
theorem dX12_crack_139 : decode cX12_crack 139 = .ok (.iaload, 1) := by decide +kernel
theorem dX12_crack_140 : decode cX12_crack 140 = .ok (.ishl, 1) := by decide +kernel
theorem dX12_crack_141 : decode cX12_crack 141 = .ok (.ior, 1) := by decide +kernel
theorem dX12_crack_142 : decode cX12_crack 142 = .ok (.istore 4, 2) := by decide +kernel
theorem dX12_crack_144 : decode cX12_crack 144 = .ok (.iinc 5 1, 3) := by decide +kernel
theorem dX12_crack_147 : decode cX12_crack 147 = .ok (.goto (-62), 3) := by decide +kernel
theorem dX12_crack_150 : decode cX12_crack 150 = .ok (.iload_n 2, 1) := by decide +kernel
theorem dX12_crack_151 : decode cX12_crack 151 = .ok (.ifCond .ne 7, 3) := by decide +kernel
theorem dX12_crack_154 : decode cX12_crack 154 = .ok (.iload_n 3, 1) := by decide +kernel
theorem dX12_crack_155 : decode cX12_crack 155 = .ok (.goto 5, 3) := by decide +kernel
theorem dX12_crack_158 : decode cX12_crack 158 = .ok (.iload 4, 2) := by decide +kernel
theorem dX12_crack_160 : decode cX12_crack 160 = .ok (.ireturn, 1) := by decide +kernel
theorem dX12_sumFrom_0 : decode cX12_sumFrom 0 = .ok (.iconst 0, 1) := by decide +kernel
theorem dX12_sumFrom_1 : decode cX12_sumFrom 1 = .ok (.istore_n 3, 1) := by decide +kernel
theorem dX12_sumFrom_2 : decode cX12_sumFrom 2 = .ok (.iload_n 1, 1) := by decide +kernel
theorem dX12_sumFrom_3 : decode cX12_sumFrom 3 = .ok (.istore 4, 2) := by decide +kernel
theorem dX12_sumFrom_5 : decode cX12_sumFrom 5 = .ok (.iload 4, 2) := by decide +kernel
theorem dX12_sumFrom_7 : decode cX12_sumFrom 7 = .ok (.iload_n 2, 1) := by decide +kernel
theorem dX12_sumFrom_8 : decode cX12_sumFrom 8 = .ok (.if_icmp .gt 18, 3) := by decide +kernel
theorem dX12_sumFrom_11 : decode cX12_sumFrom 11 = .ok (.iload_n 3, 1) := by decide +kernel
theorem dX12_sumFrom_12 : decode cX12_sumFrom 12 = .ok (.aload_n 0, 1) := by decide +kernel
theorem dX12_sumFrom_13 : decode cX12_sumFrom 13 = .ok (.iload 4, 2) := by decide +kernel
theorem dX12_sumFrom_15 : decode cX12_sumFrom 15 = .ok (.invokevirtual 400, 3) := by decide +kernel
theorem dX12_sumFrom_18 : decode cX12_sumFrom 18 = .ok (.iadd, 1) := by decide +kernel
theorem dX12_sumFrom_19 : decode cX12_sumFrom 19 = .ok (.istore_n 3, 1) := by decide +kernel
theorem dX12_sumFrom_20 : decode cX12_sumFrom 20 = .ok (.iinc 4 1, 3) := by decide +kernel
theorem dX12_sumFrom_23 : decode cX12_sumFrom 23 = .ok (.goto (-18), 3) := by decide +kernel
theorem dX12_sumFrom_26 : decode cX12_sumFrom 26 = .ok (.iload_n 3, 1) := by decide +kernel
theorem dX12_sumFrom_27 : decode cX12_sumFrom 27 = .ok (.ireturn, 1) := by decide +kernel
theorem dX12_halves_0 : decode cX12_halves 0 = .ok (.iload_n 1, 1) := by decide +kernel
theorem dX12_halves_1 : decode cX12_halves 1 = .ok (.iconst 2, 1) := by decide +kernel
theorem dX12_halves_2 : decode cX12_halves 2 = .ok (.bipush 12, 2) := by decide +kernel
theorem dX12_halves_4 : decode cX12_halves 4 = .ok (.invokestatic 134, 3) := by decide +kernel
theorem dX12_halves_7 : decode cX12_halves 7 = .ok (.ifCond .eq 11, 3) := by decide +kernel
theorem dX12_halves_10 : decode cX12_halves 10 = .ok (.iload_n 1, 1) := by decide +kernel
theorem dX12_halves_11 : decode cX12_halves 11 = .ok (.aload_n 0, 1) := by decide +kernel
theorem dX12_halves_12 : decode cX12_halves 12 = .ok (.getfield 162, 3) := by decide +kernel
theorem dX12_halves_15 : decode cX12_halves 15 = .ok (.if_icmp .le 5, 3) := by decide +kernel
theorem dX12_halves_18 : decode cX12_halves 18 = .ok (.iconst (-1), 1) := by decide +kernel
theorem dX12_halves_19 : decode cX12_halves 19 = .ok (.ireturn, 1) := by decide +kernel
theorem dX12_halves_20 : decode cX12_halves 20 = .ok (.aload_n 0, 1) := by decide +kernel
theorem dX12_halves_21 : decode cX12_halves 21 = .ok (.iconst 0, 1) := by decide +kernel
theorem dX12_halves_22 : decode cX12_halves 22 = .ok (.putfield 162, 3) := by decide +kernel
theorem dX12_halves_25 : decode cX12_halves 25 = .ok (.iload_n 1, 1) := by decide +kernel
theorem dX12_halves_26 : decode cX12_halves 26 = .ok (.iconst 1, 1) := by decide +kernel
theorem dX12_halves_27 : decode cX12_halves 27 = .ok (.isub, 1) := by decide +kernel
theorem dX12_halves_28 : decode cX12_halves 28 = .ok (.istore_n 2, 1) := by decide +kernel
theorem dX12_halves_29 : decode cX12_halves 29 = .ok (.iload_n 2, 1) := by decide +kernel
theorem dX12_halves_30 : decode cX12_halves 30 = .ok (.ifCond .lt 118, 3) := by decide +kernel
theorem dX12_halves_33 : decode cX12_halves 33 = .ok (.aload_n 0, 1) := by decide +kernel
theorem dX12_halves_34 : decode cX12_halves 34 = .ok (.getfield 117, 3) := by decide +kernel
theorem dX12_halves_37 : decode cX12_halves 37 = .ok (.bipush 12, 2) := by decide +kernel
theorem dX12_halves_39 : decode cX12_halves 39 = .ok (.iload_n 2, 1) := by decide +kernel
theorem dX12_halves_40 : decode cX12_halves 40 = .ok (.imul, 1) := by decide +kernel
theorem dX12_halves_41 : decode cX12_halves 41 = .ok (.iload_n 2, 1) := by decide +kernel
theorem dX12_halves_42 : decode cX12_halves 42 = .ok (.iadd, 1) := by decide +kernel
theorem dX12_halves_43 : decode cX12_halves 43 = .ok (.aload_n 0, 1) := by decide +kernel
theorem dX12_halves_44 : decode cX12_halves 44 = .ok (.iload_n 2, 1) := by decide +kernel
theorem dX12_halves_45 : decode cX12_halves 45 = .ok (.invokevirtual 400, 3) := by decide +kernel
theorem dX12_halves_48 : decode cX12_halves 48 = .ok (.iastore, 1) := by decide +kernel
theorem dX12_halves_49 : decode cX12_halves 49 = .ok (.iload_n 2, 1) := by decide +kernel
theorem dX12_halves_50 : decode cX12_halves 50 = .ok (.iconst 1, 1) := by decide +kernel
theorem dX12_halves_51 : decode cX12_halves 51 = .ok (.iadd, 1) := by decide +kernel
theorem dX12_halves_52 : decode cX12_halves 52 = .ok (.istore_n 3, 1) := by decide +kernel
theorem dX12_halves_53 : decode cX12_halves 53 = .ok (.iload_n 3, 1) := by decide +kernel
theorem dX12_halves_54 : decode cX12_halves 54 = .ok (.iload_n 1, 1) := by decide +kernel
theorem dX12_halves_55 : decode cX12_halves 55 = .ok (.if_icmp .ge 87, 3) := by decide +kernel
theorem dX12_halves_58 : decode cX12_halves 58 = .ok (.aload_n 0, 1) := by decide +kernel
theorem dX12_halves_59 : decode cX12_halves 59 = .ok (.iload_n 2, 1) := by decide +kernel
theorem dX12_halves_60 : decode cX12_halves 60 = .ok (.invokevirtual 400, 3) := by decide +kernel
theorem dX12_halves_63 : decode cX12_halves 63 = .ok (.aload_n 0, 1) := by decide +kernel
theorem dX12_halves_64 : decode cX12_halves 64 = .ok (.iload_n 2, 1) := by decide +kernel
theorem dX12_halves_65 : decode cX12_halves 65 = .ok (.iconst 1, 1) := by decide +kernel
theorem dX12_halves_66 : decode cX12_halves 66 = .ok (.iadd, 1) := by decide +kernel
theorem dX12_halves_67 : decode cX12_halves 67 = .ok (.iload_n 3, 1) := by decide +kernel
theorem dX12_halves_68 : decode cX12_halves 68 = .ok (.invokevirtual 425, 3) := by decide +kernel
theorem dX12_halves_71 : decode cX12_halves 71 = .ok (.iadd, 1) := by decide +kernel
theorem dX12_halves_72 : decode cX12_halves 72 = .ok (.aload_n 0, 1) := by decide +kernel
theorem dX12_halves_73 : decode cX12_halves 73 = .ok (.getfield 117, 3) := by decide +kernel
theorem dX12_halves_76 : decode cX12_halves 76 = .ok (.bipush 12, 2) := by decide +kernel
theorem dX12_halves_78 : decode cX12_halves 78 = .ok (.iload_n 2, 1) := by decide +kernel
theorem dX12_halves_79 : decode cX12_halves 79 = .ok (.iconst 1, 1) := by decide +kernel
theorem dX12_halves_80 : decode cX12_halves 80 = .ok (.iadd, 1) := by decide +kernel
theorem dX12_halves_81 : decode cX12_halves 81 = .ok (.imul, 1) := by decide +kernel
theorem dX12_halves_82 : decode cX12_halves 82 = .ok (.iload_n 3, 1) := by decide +kernel
theorem dX12_halves_83 : decode cX12_halves 83 = .ok (.iadd, 1) := by decide +kernel
theorem dX12_halves_84 : decode cX12_halves 84 = .ok (.iaload, 1) := by decide +kernel
theorem dX12_halves_85 : decode cX12_halves 85 = .ok (.isub, 1) := by decide +kernel
theorem dX12_halves_86 : decode cX12_halves 86 = .ok (.istore 4, 2) := by decide +kernel
theorem dX12_halves_88 : decode cX12_halves 88 = .ok (.aload_n 0, 1) := by decide +kernel
theorem dX12_halves_89 : decode cX12_halves 89 = .ok (.iload_n 3, 1) := by decide +kernel
theorem dX12_halves_90 : decode cX12_halves 90 = .ok (.invokevirtual 400, 3) := by decide +kernel
theorem dX12_halves_93 : decode cX12_halves 93 = .ok (.aload_n 0, 1) := by decide +kernel
theorem dX12_halves_94 : decode cX12_halves 94 = .ok (.iload_n 2, 1) := by decide +kernel
theorem dX12_halves_95 : decode cX12_halves 95 = .ok (.iload_n 3, 1) := by decide +kernel
theorem dX12_halves_96 : decode cX12_halves 96 = .ok (.iconst 1, 1) := by decide +kernel
theorem dX12_halves_97 : decode cX12_halves 97 = .ok (.isub, 1) := by decide +kernel
theorem dX12_halves_98 : decode cX12_halves 98 = .ok (.invokevirtual 425, 3) := by decide +kernel
theorem dX12_halves_101 : decode cX12_halves 101 = .ok (.iadd, 1) := by decide +kernel
theorem dX12_halves_102 : decode cX12_halves 102 = .ok (.aload_n 0, 1) := by decide +kernel
theorem dX12_halves_103 : decode cX12_halves 103 = .ok (.getfield 117, 3) := by decide +kernel
theorem dX12_halves_106 : decode cX12_halves 106 = .ok (.bipush 12, 2) := by decide +kernel
theorem dX12_halves_108 : decode cX12_halves 108 = .ok (.iload_n 2, 1) := by decide +kernel
theorem dX12_halves_109 : decode cX12_halves 109 = .ok (.imul, 1) := by decide +kernel
theorem dX12_halves_110 : decode cX12_halves 110 = .ok (.iload_n 3, 1) := by decide +kernel
theorem dX12_halves_111 : decode cX12_halves 111 = .ok (.iadd, 1) := by decide +kernel
theorem dX12_halves_112 : decode cX12_halves 112 = .ok (.iconst 1, 1) := by decide +kernel
theorem dX12_halves_113 : decode cX12_halves 113 = .ok (.isub, 1) := by decide +kernel
theorem dX12_halves_114 : decode cX12_halves 114 = .ok (.iaload, 1) := by decide +kernel
theorem dX12_halves_115 : decode cX12_halves 115 = .ok (.isub, 1) := by decide +kernel
theorem dX12_halves_116 : decode cX12_halves 116 = .ok (.istore 5, 2) := by decide +kernel
theorem dX12_halves_118 : decode cX12_halves 118 = .ok (.aload_n 0, 1) := by decide +kernel
theorem dX12_halves_119 : decode cX12_halves 119 = .ok (.getfield 117, 3) := by decide +kernel
theorem dX12_halves_122 : decode cX12_halves 122 = .ok (.bipush 12, 2) := by decide +kernel
theorem dX12_halves_124 : decode cX12_halves 124 = .ok (.iload_n 2, 1) := by decide +kernel
theorem dX12_halves_125 : decode cX12_halves 125 = .ok (.imul, 1) := by decide +kernel
theorem dX12_halves_126 : decode cX12_halves 126 = .ok (.iload_n 3, 1) := by decide +kernel
theorem dX12_halves_127 : decode cX12_halves 127 = .ok (.iadd, 1) := by decide +kernel
theorem dX12_halves_128 : decode cX12_halves 128 = .ok (.iload 4, 2) := by decide +kernel
theorem dX12_halves_130 : decode cX12_halves 130 = .ok (.iload 5, 2) := by decide +kernel
theorem dX12_halves_132 : decode cX12_halves 132 = .ok (.invokestatic 362, 3) := by decide +kernel
theorem dX12_halves_135 : decode cX12_halves 135 = .ok (.iastore, 1) := by decide +kernel
theorem dX12_halves_136 : decode cX12_halves 136 = .ok (.iinc 3 1, 3) := by decide +kernel
theorem dX12_halves_139 : decode cX12_halves 139 = .ok (.goto (-86), 3) := by decide +kernel
theorem dX12_halves_142 : decode cX12_halves 142 = .ok (.iinc 2 (-1), 3) := by decide +kernel
theorem dX12_halves_145 : decode cX12_halves 145 = .ok (.goto (-116), 3) := by decide +kernel
theorem dX12_halves_148 : decode cX12_halves 148 = .ok (.aload_n 0, 1) := by decide +kernel
theorem dX12_halves_149 : decode cX12_halves 149 = .ok (.getfield 117, 3) := by decide +kernel
theorem dX12_halves_152 : decode cX12_halves 152 = .ok (.iload_n 1, 1) := by decide +kernel
theorem dX12_halves_153 : decode cX12_halves 153 = .ok (.iconst 1, 1) := by decide +kernel
theorem dX12_halves_154 : decode cX12_halves 154 = .ok (.isub, 1) := by decide +kernel
theorem dX12_halves_155 : decode cX12_halves 155 = .ok (.iaload, 1) := by decide +kernel
theorem dX12_halves_156 : decode cX12_halves 156 = .ok (.ireturn, 1) := by decide +kernel
theorem dX12_worth_0 : decode cX12_worth 0 = .ok (.aload_n 0, 1) := by decide +kernel
theorem dX12_worth_1 : decode cX12_worth 1 = .ok (.iload_n 1, 1) := by decide +kernel
theorem dX12_worth_2 : decode cX12_worth 2 = .ok (.iload_n 2, 1) := by decide +kernel
theorem dX12_worth_3 : decode cX12_worth 3 = .ok (.imul, 1) := by decide +kernel
theorem dX12_worth_4 : decode cX12_worth 4 = .ok (.iload_n 3, 1) := by decide +kernel
theorem dX12_worth_5 : decode cX12_worth 5 = .ok (.iadd, 1) := by decide +kernel
theorem dX12_worth_6 : decode cX12_worth 6 = .ok (.invokevirtual 400, 3) := by decide +kernel
theorem dX12_worth_9 : decode cX12_worth 9 = .ok (.ireturn, 1) := by decide +kernel
theorem dX12_bothWould_0 : decode cX12_bothWould 0 = .ok (.aload_n 0, 1) := by decide +kernel
theorem dX12_bothWould_1 : decode cX12_bothWould 1 = .ok (.iload_n 1, 1) := by decide +kernel
theorem dX12_bothWould_2 : decode cX12_bothWould 2 = .ok (.iload_n 2, 1) := by decide +kernel
theorem dX12_bothWould_3 : decode cX12_bothWould 3 = .ok (.iload_n 3, 1) := by decide +kernel
theorem dX12_bothWould_4 : decode cX12_bothWould 4 = .ok (.invokevirtual 428, 3) := by decide +kernel
theorem dX12_bothWould_7 : decode cX12_bothWould 7 = .ok (.aload_n 0, 1) := by decide +kernel
theorem dX12_bothWould_8 : decode cX12_bothWould 8 = .ok (.iload_n 1, 1) := by decide +kernel
theorem dX12_bothWould_9 : decode cX12_bothWould 9 = .ok (.iload_n 2, 1) := by decide +kernel
theorem dX12_bothWould_10 : decode cX12_bothWould 10 = .ok (.iload_n 2, 1) := by decide +kernel
theorem dX12_bothWould_11 : decode cX12_bothWould 11 = .ok (.invokevirtual 428, 3) := by decide +kernel
theorem dX12_bothWould_14 : decode cX12_bothWould 14 = .ok (.if_icmp .le 24, 3) := by decide +kernel
theorem dX12_bothWould_17 : decode cX12_bothWould 17 = .ok (.aload_n 0, 1) := by decide +kernel
theorem dX12_bothWould_18 : decode cX12_bothWould 18 = .ok (.iload_n 1, 1) := by decide +kernel
theorem dX12_bothWould_19 : decode cX12_bothWould 19 = .ok (.iload_n 3, 1) := by decide +kernel
theorem dX12_bothWould_20 : decode cX12_bothWould 20 = .ok (.iload_n 2, 1) := by decide +kernel
theorem dX12_bothWould_21 : decode cX12_bothWould 21 = .ok (.invokevirtual 428, 3) := by decide +kernel
theorem dX12_bothWould_24 : decode cX12_bothWould 24 = .ok (.aload_n 0, 1) := by decide +kernel
theorem dX12_bothWould_25 : decode cX12_bothWould 25 = .ok (.iload_n 1, 1) := by decide +kernel
theorem dX12_bothWould_26 : decode cX12_bothWould 26 = .ok (.iload_n 3, 1) := by decide +kernel
theorem dX12_bothWould_27 : decode cX12_bothWould 27 = .ok (.iload_n 3, 1) := by decide +kernel
theorem dX12_bothWould_28 : decode cX12_bothWould 28 = .ok (.invokevirtual 428, 3) := by decide +kernel
theorem dX12_bothWould_31 : decode cX12_bothWould 31 = .ok (.if_icmp .le 7, 3) := by decide +kernel
theorem dX12_bothWould_34 : decode cX12_bothWould 34 = .ok (.iconst 1, 1) := by decide +kernel
theorem dX12_bothWould_35 : decode cX12_bothWould 35 = .ok (.goto 4, 3) := by decide +kernel
theorem dX12_bothWould_38 : decode cX12_bothWould 38 = .ok (.iconst 0, 1) := by decide +kernel
theorem dX12_bothWould_39 : decode cX12_bothWould 39 = .ok (.ireturn, 1) := by decide +kernel
theorem dX12_mostAtOnce_0 : decode cX12_mostAtOnce 0 = .ok (.iconst 0, 1) := by decide +kernel
theorem dX12_mostAtOnce_1 : decode cX12_mostAtOnce 1 = .ok (.istore_n 2, 1) := by decide +kernel
theorem dX12_mostAtOnce_2 : decode cX12_mostAtOnce 2 = .ok (.iload_n 2, 1) := by decide +kernel
theorem dX12_mostAtOnce_3 : decode cX12_mostAtOnce 3 = .ok (.iconst 1, 1) := by decide +kernel
theorem dX12_mostAtOnce_4 : decode cX12_mostAtOnce 4 = .ok (.iload_n 1, 1) := by decide +kernel
theorem dX12_mostAtOnce_5 : decode cX12_mostAtOnce 5 = .ok (.ishl, 1) := by decide +kernel
theorem dX12_mostAtOnce_6 : decode cX12_mostAtOnce 6 = .ok (.if_icmp .ge 117, 3) := by decide +kernel
theorem dX12_mostAtOnce_9 : decode cX12_mostAtOnce 9 = .ok (.aload_n 0, 1) := by decide +kernel
theorem dX12_mostAtOnce_10 : decode cX12_mostAtOnce 10 = .ok (.getfield 120, 3) := by decide +kernel
theorem dX12_mostAtOnce_13 : decode cX12_mostAtOnce 13 = .ok (.iload_n 2, 1) := by decide +kernel
theorem dX12_mostAtOnce_14 : decode cX12_mostAtOnce 14 = .ok (.iconst 0, 1) := by decide +kernel
theorem dX12_mostAtOnce_15 : decode cX12_mostAtOnce 15 = .ok (.iastore, 1) := by decide +kernel
theorem dX12_mostAtOnce_16 : decode cX12_mostAtOnce 16 = .ok (.iload_n 2, 1) := by decide +kernel
theorem dX12_mostAtOnce_17 : decode cX12_mostAtOnce 17 = .ok (.ifCond .ne 6, 3) := by decide +kernel
theorem dX12_mostAtOnce_20 : decode cX12_mostAtOnce 20 = .ok (.goto 97, 3) := by decide +kernel
theorem dX12_mostAtOnce_23 : decode cX12_mostAtOnce 23 = .ok (.iload_n 2, 1) := by decide +kernel
theorem dX12_mostAtOnce_24 : decode cX12_mostAtOnce 24 = .ok (.invokestatic 416, 3) := by decide +kernel
theorem dX12_mostAtOnce_27 : decode cX12_mostAtOnce 27 = .ok (.istore_n 3, 1) := by decide +kernel
theorem dX12_mostAtOnce_28 : decode cX12_mostAtOnce 28 = .ok (.iload_n 2, 1) := by decide +kernel
theorem dX12_mostAtOnce_29 : decode cX12_mostAtOnce 29 = .ok (.iconst 1, 1) := by decide +kernel
theorem dX12_mostAtOnce_30 : decode cX12_mostAtOnce 30 = .ok (.iload_n 3, 1) := by decide +kernel
theorem dX12_mostAtOnce_31 : decode cX12_mostAtOnce 31 = .ok (.ishl, 1) := by decide +kernel
theorem dX12_mostAtOnce_32 : decode cX12_mostAtOnce 32 = .ok (.iconst (-1), 1) := by decide +kernel
theorem dX12_mostAtOnce_33 : decode cX12_mostAtOnce 33 = .ok (.ixor, 1) := by decide +kernel
theorem dX12_mostAtOnce_34 : decode cX12_mostAtOnce 34 = .ok (.iand, 1) := by decide +kernel
theorem dX12_mostAtOnce_35 : decode cX12_mostAtOnce 35 = .ok (.istore 4, 2) := by decide +kernel
theorem dX12_mostAtOnce_37 : decode cX12_mostAtOnce 37 = .ok (.aload_n 0, 1) := by decide +kernel
theorem dX12_mostAtOnce_38 : decode cX12_mostAtOnce 38 = .ok (.getfield 120, 3) := by decide +kernel
theorem dX12_mostAtOnce_41 : decode cX12_mostAtOnce 41 = .ok (.iload_n 2, 1) := by decide +kernel
theorem dX12_mostAtOnce_42 : decode cX12_mostAtOnce 42 = .ok (.aload_n 0, 1) := by decide +kernel
theorem dX12_mostAtOnce_43 : decode cX12_mostAtOnce 43 = .ok (.getfield 120, 3) := by decide +kernel
theorem dX12_mostAtOnce_46 : decode cX12_mostAtOnce 46 = .ok (.iload 4, 2) := by decide +kernel
theorem dX12_mostAtOnce_48 : decode cX12_mostAtOnce 48 = .ok (.iaload, 1) := by decide +kernel
theorem dX12_mostAtOnce_49 : decode cX12_mostAtOnce 49 = .ok (.iastore, 1) := by decide +kernel
theorem dX12_mostAtOnce_50 : decode cX12_mostAtOnce 50 = .ok (.iconst 0, 1) := by decide +kernel
theorem dX12_mostAtOnce_51 : decode cX12_mostAtOnce 51 = .ok (.istore 5, 2) := by decide +kernel
theorem dX12_mostAtOnce_53 : decode cX12_mostAtOnce 53 = .ok (.iload 5, 2) := by decide +kernel
theorem dX12_mostAtOnce_55 : decode cX12_mostAtOnce 55 = .ok (.iload_n 1, 1) := by decide +kernel
theorem dX12_mostAtOnce_56 : decode cX12_mostAtOnce 56 = .ok (.if_icmp .ge 61, 3) := by decide +kernel
theorem dX12_mostAtOnce_59 : decode cX12_mostAtOnce 59 = .ok (.iload 4, 2) := by decide +kernel
theorem dX12_mostAtOnce_61 : decode cX12_mostAtOnce 61 = .ok (.iload 5, 2) := by decide +kernel
theorem dX12_mostAtOnce_63 : decode cX12_mostAtOnce 63 = .ok (.invokestatic 130, 3) := by decide +kernel
theorem dX12_mostAtOnce_66 : decode cX12_mostAtOnce 66 = .ok (.ifCond .eq 45, 3) := by decide +kernel
theorem dX12_mostAtOnce_69 : decode cX12_mostAtOnce 69 = .ok (.aload_n 0, 1) := by decide +kernel
theorem dX12_mostAtOnce_70 : decode cX12_mostAtOnce 70 = .ok (.iload_n 1, 1) := by decide +kernel
theorem dX12_mostAtOnce_71 : decode cX12_mostAtOnce 71 = .ok (.iload_n 3, 1) := by decide +kernel
theorem dX12_mostAtOnce_72 : decode cX12_mostAtOnce 72 = .ok (.iload 5, 2) := by decide +kernel
theorem dX12_mostAtOnce_74 : decode cX12_mostAtOnce 74 = .ok (.invokevirtual 431, 3) := by decide +kernel
theorem dX12_mostAtOnce_77 : decode cX12_mostAtOnce 77 = .ok (.ifCond .eq 34, 3) := by decide +kernel
theorem dX12_mostAtOnce_80 : decode cX12_mostAtOnce 80 = .ok (.aload_n 0, 1) := by decide +kernel
theorem dX12_mostAtOnce_81 : decode cX12_mostAtOnce 81 = .ok (.getfield 120, 3) := by decide +kernel
theorem dX12_mostAtOnce_84 : decode cX12_mostAtOnce 84 = .ok (.iload_n 2, 1) := by decide +kernel
theorem dX12_mostAtOnce_85 : decode cX12_mostAtOnce 85 = .ok (.aload_n 0, 1) := by decide +kernel
theorem dX12_mostAtOnce_86 : decode cX12_mostAtOnce 86 = .ok (.getfield 120, 3) := by decide +kernel
theorem dX12_mostAtOnce_89 : decode cX12_mostAtOnce 89 = .ok (.iload_n 2, 1) := by decide +kernel
theorem dX12_mostAtOnce_90 : decode cX12_mostAtOnce 90 = .ok (.iaload, 1) := by decide +kernel
theorem dX12_mostAtOnce_91 : decode cX12_mostAtOnce 91 = .ok (.iconst 1, 1) := by decide +kernel
theorem dX12_mostAtOnce_92 : decode cX12_mostAtOnce 92 = .ok (.aload_n 0, 1) := by decide +kernel
theorem dX12_mostAtOnce_93 : decode cX12_mostAtOnce 93 = .ok (.getfield 120, 3) := by decide +kernel
theorem dX12_mostAtOnce_96 : decode cX12_mostAtOnce 96 = .ok (.iload 4, 2) := by decide +kernel
theorem dX12_mostAtOnce_98 : decode cX12_mostAtOnce 98 = .ok (.iconst 1, 1) := by decide +kernel
theorem dX12_mostAtOnce_99 : decode cX12_mostAtOnce 99 = .ok (.iload 5, 2) := by decide +kernel
theorem dX12_mostAtOnce_101 : decode cX12_mostAtOnce 101 = .ok (.ishl, 1) := by decide +kernel
theorem dX12_mostAtOnce_102 : decode cX12_mostAtOnce 102 = .ok (.iconst (-1), 1) := by decide +kernel
theorem dX12_mostAtOnce_103 : decode cX12_mostAtOnce 103 = .ok (.ixor, 1) := by decide +kernel
theorem dX12_mostAtOnce_104 : decode cX12_mostAtOnce 104 = .ok (.iand, 1) := by decide +kernel
theorem dX12_mostAtOnce_105 : decode cX12_mostAtOnce 105 = .ok (.iaload, 1) := by decide +kernel
theorem dX12_mostAtOnce_106 : decode cX12_mostAtOnce 106 = .ok (.iadd, 1) := by decide +kernel
theorem dX12_mostAtOnce_107 : decode cX12_mostAtOnce 107 = .ok (.invokestatic 362, 3) := by decide +kernel
theorem dX12_mostAtOnce_110 : decode cX12_mostAtOnce 110 = .ok (.iastore, 1) := by decide +kernel
theorem dX12_mostAtOnce_111 : decode cX12_mostAtOnce 111 = .ok (.iinc 5 1, 3) := by decide +kernel
theorem dX12_mostAtOnce_114 : decode cX12_mostAtOnce 114 = .ok (.goto (-61), 3) := by decide +kernel
theorem dX12_mostAtOnce_117 : decode cX12_mostAtOnce 117 = .ok (.iinc 2 1, 3) := by decide +kernel
theorem dX12_mostAtOnce_120 : decode cX12_mostAtOnce 120 = .ok (.goto (-118), 3) := by decide +kernel
theorem dX12_mostAtOnce_123 : decode cX12_mostAtOnce 123 = .ok (.aload_n 0, 1) := by decide +kernel
theorem dX12_mostAtOnce_124 : decode cX12_mostAtOnce 124 = .ok (.getfield 120, 3) := by decide +kernel
theorem dX12_mostAtOnce_127 : decode cX12_mostAtOnce 127 = .ok (.iconst 1, 1) := by decide +kernel
theorem dX12_mostAtOnce_128 : decode cX12_mostAtOnce 128 = .ok (.iload_n 1, 1) := by decide +kernel
theorem dX12_mostAtOnce_129 : decode cX12_mostAtOnce 129 = .ok (.ishl, 1) := by decide +kernel
theorem dX12_mostAtOnce_130 : decode cX12_mostAtOnce 130 = .ok (.iconst 1, 1) := by decide +kernel
theorem dX12_mostAtOnce_131 : decode cX12_mostAtOnce 131 = .ok (.isub, 1) := by decide +kernel
theorem dX12_mostAtOnce_132 : decode cX12_mostAtOnce 132 = .ok (.iaload, 1) := by decide +kernel
theorem dX12_mostAtOnce_133 : decode cX12_mostAtOnce 133 = .ok (.ireturn, 1) := by decide +kernel
theorem dX12_swaps_0 : decode cX12_swaps 0 = .ok (.iload_n 1, 1) := by decide +kernel
theorem dX12_swaps_1 : decode cX12_swaps 1 = .ok (.iconst 2, 1) := by decide +kernel
theorem dX12_swaps_2 : decode cX12_swaps 2 = .ok (.bipush 8, 2) := by decide +kernel
theorem dX12_swaps_4 : decode cX12_swaps 4 = .ok (.invokestatic 134, 3) := by decide +kernel
theorem dX12_swaps_7 : decode cX12_swaps 7 = .ok (.ifCond .eq 22, 3) := by decide +kernel
theorem dX12_swaps_10 : decode cX12_swaps 10 = .ok (.iload_n 2, 1) := by decide +kernel
theorem dX12_swaps_11 : decode cX12_swaps 11 = .ok (.iconst 0, 1) := by decide +kernel
theorem dX12_swaps_12 : decode cX12_swaps 12 = .ok (.iconst 1, 1) := by decide +kernel
theorem dX12_swaps_13 : decode cX12_swaps 13 = .ok (.invokestatic 134, 3) := by decide +kernel
theorem dX12_swaps_16 : decode cX12_swaps 16 = .ok (.ifCond .eq 13, 3) := by decide +kernel
theorem dX12_swaps_19 : decode cX12_swaps 19 = .ok (.iload_n 1, 1) := by decide +kernel
theorem dX12_swaps_20 : decode cX12_swaps 20 = .ok (.iload_n 1, 1) := by decide +kernel
theorem dX12_swaps_21 : decode cX12_swaps 21 = .ok (.imul, 1) := by decide +kernel
theorem dX12_swaps_22 : decode cX12_swaps 22 = .ok (.aload_n 0, 1) := by decide +kernel
theorem dX12_swaps_23 : decode cX12_swaps 23 = .ok (.getfield 162, 3) := by decide +kernel
theorem dX12_swaps_26 : decode cX12_swaps 26 = .ok (.if_icmp .le 5, 3) := by decide +kernel
theorem dX12_swaps_29 : decode cX12_swaps 29 = .ok (.iconst (-1), 1) := by decide +kernel
theorem dX12_swaps_30 : decode cX12_swaps 30 = .ok (.ireturn, 1) := by decide +kernel
theorem dX12_swaps_31 : decode cX12_swaps 31 = .ok (.aload_n 0, 1) := by decide +kernel
theorem dX12_swaps_32 : decode cX12_swaps 32 = .ok (.iconst 0, 1) := by decide +kernel
theorem dX12_swaps_33 : decode cX12_swaps 33 = .ok (.putfield 162, 3) := by decide +kernel
theorem dX12_swaps_36 : decode cX12_swaps 36 = .ok (.iload_n 2, 1) := by decide +kernel
theorem dX12_swaps_37 : decode cX12_swaps 37 = .ok (.iconst 1, 1) := by decide +kernel
theorem dX12_swaps_38 : decode cX12_swaps 38 = .ok (.if_icmp .ne 9, 3) := by decide +kernel
theorem dX12_swaps_41 : decode cX12_swaps 41 = .ok (.aload_n 0, 1) := by decide +kernel
theorem dX12_swaps_42 : decode cX12_swaps 42 = .ok (.iload_n 1, 1) := by decide +kernel
theorem dX12_swaps_43 : decode cX12_swaps 43 = .ok (.invokevirtual 434, 3) := by decide +kernel
theorem dX12_swaps_46 : decode cX12_swaps 46 = .ok (.ireturn, 1) := by decide +kernel
theorem dX12_swaps_47 : decode cX12_swaps 47 = .ok (.iconst 0, 1) := by decide +kernel
theorem dX12_swaps_48 : decode cX12_swaps 48 = .ok (.istore_n 3, 1) := by decide +kernel
theorem dX12_swaps_49 : decode cX12_swaps 49 = .ok (.iconst 0, 1) := by decide +kernel
theorem dX12_swaps_50 : decode cX12_swaps 50 = .ok (.istore 4, 2) := by decide +kernel
theorem dX12_swaps_52 : decode cX12_swaps 52 = .ok (.iload 4, 2) := by decide +kernel
theorem dX12_swaps_54 : decode cX12_swaps 54 = .ok (.iload_n 1, 1) := by decide +kernel
theorem dX12_swaps_55 : decode cX12_swaps 55 = .ok (.if_icmp .ge 41, 3) := by decide +kernel
theorem dX12_swaps_58 : decode cX12_swaps 58 = .ok (.iconst 0, 1) := by decide +kernel
theorem dX12_swaps_59 : decode cX12_swaps 59 = .ok (.istore 5, 2) := by decide +kernel
theorem dX12_swaps_61 : decode cX12_swaps 61 = .ok (.iload 5, 2) := by decide +kernel
theorem dX12_swaps_63 : decode cX12_swaps 63 = .ok (.iload 4, 2) := by decide +kernel
theorem dX12_swaps_65 : decode cX12_swaps 65 = .ok (.if_icmp .ge 25, 3) := by decide +kernel
theorem dX12_swaps_68 : decode cX12_swaps 68 = .ok (.aload_n 0, 1) := by decide +kernel
theorem dX12_swaps_69 : decode cX12_swaps 69 = .ok (.iload_n 1, 1) := by decide +kernel
theorem dX12_swaps_70 : decode cX12_swaps 70 = .ok (.iload 4, 2) := by decide +kernel
theorem dX12_swaps_72 : decode cX12_swaps 72 = .ok (.iload 5, 2) := by decide +kernel
theorem dX12_swaps_74 : decode cX12_swaps 74 = .ok (.invokevirtual 431, 3) := by decide +kernel
theorem dX12_swaps_77 : decode cX12_swaps 77 = .ok (.ifCond .eq 7, 3) := by decide +kernel
theorem dX12_swaps_80 : decode cX12_swaps 80 = .ok (.iload_n 3, 1) := by decide +kernel
theorem dX12_swaps_81 : decode cX12_swaps 81 = .ok (.iconst 1, 1) := by decide +kernel
theorem dX12_swaps_82 : decode cX12_swaps 82 = .ok (.iadd, 1) := by decide +kernel
theorem dX12_swaps_83 : decode cX12_swaps 83 = .ok (.istore_n 3, 1) := by decide +kernel
theorem dX12_swaps_84 : decode cX12_swaps 84 = .ok (.iinc 5 1, 3) := by decide +kernel
theorem dX12_swaps_87 : decode cX12_swaps 87 = .ok (.goto (-26), 3) := by decide +kernel
theorem dX12_swaps_90 : decode cX12_swaps 90 = .ok (.iinc 4 1, 3) := by decide +kernel
theorem dX12_swaps_93 : decode cX12_swaps 93 = .ok (.goto (-41), 3) := by decide +kernel
theorem dX12_swaps_96 : decode cX12_swaps 96 = .ok (.iload_n 3, 1) := by decide +kernel
theorem dX12_swaps_97 : decode cX12_swaps 97 = .ok (.ireturn, 1) := by decide +kernel
theorem dX12_laysSale_0 : decode cX12_laysSale 0 = .ok (.iconst 1, 1) := by decide +kernel
theorem dX12_laysSale_1 : decode cX12_laysSale 1 = .ok (.iload_n 1, 1) := by decide +kernel
theorem dX12_laysSale_2 : decode cX12_laysSale 2 = .ok (.ishl, 1) := by decide +kernel
theorem dX12_laysSale_3 : decode cX12_laysSale 3 = .ok (.iconst 1, 1) := by decide +kernel
theorem dX12_laysSale_4 : decode cX12_laysSale 4 = .ok (.isub, 1) := by decide +kernel
theorem dX12_laysSale_5 : decode cX12_laysSale 5 = .ok (.istore_n 2, 1) := by decide +kernel
theorem dX12_laysSale_6 : decode cX12_laysSale 6 = .ok (.iload_n 2, 1) := by decide +kernel
theorem dX12_laysSale_7 : decode cX12_laysSale 7 = .ok (.ifCond .lt 80, 3) := by decide +kernel
theorem dX12_laysSale_10 : decode cX12_laysSale 10 = .ok (.iload_n 2, 1) := by decide +kernel
theorem dX12_laysSale_11 : decode cX12_laysSale 11 = .ok (.invokestatic 320, 3) := by decide +kernel
theorem dX12_laysSale_14 : decode cX12_laysSale 14 = .ok (.istore_n 3, 1) := by decide +kernel
theorem dX12_laysSale_15 : decode cX12_laysSale 15 = .ok (.aload_n 0, 1) := by decide +kernel
theorem dX12_laysSale_16 : decode cX12_laysSale 16 = .ok (.getfield 120, 3) := by decide +kernel
theorem dX12_laysSale_19 : decode cX12_laysSale 19 = .ok (.iload_n 2, 1) := by decide +kernel
theorem dX12_laysSale_20 : decode cX12_laysSale 20 = .ok (.iconst 0, 1) := by decide +kernel
theorem dX12_laysSale_21 : decode cX12_laysSale 21 = .ok (.iastore, 1) := by decide +kernel
theorem dX12_laysSale_22 : decode cX12_laysSale 22 = .ok (.iconst 0, 1) := by decide +kernel
theorem dX12_laysSale_23 : decode cX12_laysSale 23 = .ok (.istore 4, 2) := by decide +kernel
theorem dX12_laysSale_25 : decode cX12_laysSale 25 = .ok (.iload 4, 2) := by decide +kernel
theorem dX12_laysSale_27 : decode cX12_laysSale 27 = .ok (.iload_n 1, 1) := by decide +kernel
theorem dX12_laysSale_28 : decode cX12_laysSale 28 = .ok (.if_icmp .ge 53, 3) := by decide +kernel
theorem dX12_laysSale_31 : decode cX12_laysSale 31 = .ok (.iload_n 2, 1) := by decide +kernel
theorem dX12_laysSale_32 : decode cX12_laysSale 32 = .ok (.iload 4, 2) := by decide +kernel
theorem dX12_laysSale_34 : decode cX12_laysSale 34 = .ok (.invokestatic 130, 3) := by decide +kernel
theorem dX12_laysSale_37 : decode cX12_laysSale 37 = .ok (.ifCond .ne 38, 3) := by decide +kernel
theorem dX12_laysSale_40 : decode cX12_laysSale 40 = .ok (.aload_n 0, 1) := by decide +kernel
theorem dX12_laysSale_41 : decode cX12_laysSale 41 = .ok (.getfield 120, 3) := by decide +kernel
theorem dX12_laysSale_44 : decode cX12_laysSale 44 = .ok (.iload_n 2, 1) := by decide +kernel
theorem dX12_laysSale_45 : decode cX12_laysSale 45 = .ok (.aload_n 0, 1) := by decide +kernel
theorem dX12_laysSale_46 : decode cX12_laysSale 46 = .ok (.getfield 120, 3) := by decide +kernel
theorem dX12_laysSale_49 : decode cX12_laysSale 49 = .ok (.iload_n 2, 1) := by decide +kernel
theorem dX12_laysSale_50 : decode cX12_laysSale 50 = .ok (.iaload, 1) := by decide +kernel
theorem dX12_laysSale_51 : decode cX12_laysSale 51 = .ok (.aload_n 0, 1) := by decide +kernel
theorem dX12_laysSale_52 : decode cX12_laysSale 52 = .ok (.iload_n 1, 1) := by decide +kernel
theorem dX12_laysSale_53 : decode cX12_laysSale 53 = .ok (.iload_n 3, 1) := by decide +kernel
theorem dX12_laysSale_54 : decode cX12_laysSale 54 = .ok (.iload 4, 2) := by decide +kernel
theorem dX12_laysSale_56 : decode cX12_laysSale 56 = .ok (.invokevirtual 428, 3) := by decide +kernel
theorem dX12_laysSale_59 : decode cX12_laysSale 59 = .ok (.aload_n 0, 1) := by decide +kernel
theorem dX12_laysSale_60 : decode cX12_laysSale 60 = .ok (.getfield 120, 3) := by decide +kernel
theorem dX12_laysSale_63 : decode cX12_laysSale 63 = .ok (.iload_n 2, 1) := by decide +kernel
theorem dX12_laysSale_64 : decode cX12_laysSale 64 = .ok (.iconst 1, 1) := by decide +kernel
theorem dX12_laysSale_65 : decode cX12_laysSale 65 = .ok (.iload 4, 2) := by decide +kernel
theorem dX12_laysSale_67 : decode cX12_laysSale 67 = .ok (.ishl, 1) := by decide +kernel
theorem dX12_laysSale_68 : decode cX12_laysSale 68 = .ok (.ior, 1) := by decide +kernel
theorem dX12_laysSale_69 : decode cX12_laysSale 69 = .ok (.iaload, 1) := by decide +kernel
theorem dX12_laysSale_70 : decode cX12_laysSale 70 = .ok (.iadd, 1) := by decide +kernel
theorem dX12_laysSale_71 : decode cX12_laysSale 71 = .ok (.invokestatic 362, 3) := by decide +kernel
theorem dX12_laysSale_74 : decode cX12_laysSale 74 = .ok (.iastore, 1) := by decide +kernel
theorem dX12_laysSale_75 : decode cX12_laysSale 75 = .ok (.iinc 4 1, 3) := by decide +kernel
theorem dX12_laysSale_78 : decode cX12_laysSale 78 = .ok (.goto (-53), 3) := by decide +kernel
theorem dX12_laysSale_81 : decode cX12_laysSale 81 = .ok (.iinc 2 (-1), 3) := by decide +kernel
theorem dX12_laysSale_84 : decode cX12_laysSale 84 = .ok (.goto (-78), 3) := by decide +kernel
theorem dX12_laysSale_87 : decode cX12_laysSale 87 = .ok (.return_, 1) := by decide +kernel
theorem dX12_sale_0 : decode cX12_sale 0 = .ok (.iload_n 1, 1) := by decide +kernel
theorem dX12_sale_1 : decode cX12_sale 1 = .ok (.iconst 2, 1) := by decide +kernel
theorem dX12_sale_2 : decode cX12_sale 2 = .ok (.bipush 8, 2) := by decide +kernel
theorem dX12_sale_4 : decode cX12_sale 4 = .ok (.invokestatic 134, 3) := by decide +kernel
theorem dX12_sale_7 : decode cX12_sale 7 = .ok (.ifCond .eq 30, 3) := by decide +kernel
theorem dX12_sale_10 : decode cX12_sale 10 = .ok (.iload_n 2, 1) := by decide +kernel
theorem dX12_sale_11 : decode cX12_sale 11 = .ok (.iconst 0, 1) := by decide +kernel
theorem dX12_sale_12 : decode cX12_sale 12 = .ok (.iload_n 1, 1) := by decide +kernel
theorem dX12_sale_13 : decode cX12_sale 13 = .ok (.iconst 1, 1) := by decide +kernel
theorem dX12_sale_14 : decode cX12_sale 14 = .ok (.isub, 1) := by decide +kernel
theorem dX12_sale_15 : decode cX12_sale 15 = .ok (.invokestatic 134, 3) := by decide +kernel
theorem dX12_sale_18 : decode cX12_sale 18 = .ok (.ifCond .ne 9, 3) := by decide +kernel
theorem dX12_sale_21 : decode cX12_sale 21 = .ok (.iload_n 2, 1) := by decide +kernel
theorem dX12_sale_22 : decode cX12_sale 22 = .ok (.bipush 100, 2) := by decide +kernel
theorem dX12_sale_24 : decode cX12_sale 24 = .ok (.if_icmp .ne 13, 3) := by decide +kernel
theorem dX12_sale_27 : decode cX12_sale 27 = .ok (.iload_n 1, 1) := by decide +kernel
theorem dX12_sale_28 : decode cX12_sale 28 = .ok (.iload_n 1, 1) := by decide +kernel
theorem dX12_sale_29 : decode cX12_sale 29 = .ok (.imul, 1) := by decide +kernel
theorem dX12_sale_30 : decode cX12_sale 30 = .ok (.aload_n 0, 1) := by decide +kernel
theorem dX12_sale_31 : decode cX12_sale 31 = .ok (.getfield 162, 3) := by decide +kernel
theorem dX12_sale_34 : decode cX12_sale 34 = .ok (.if_icmp .le 5, 3) := by decide +kernel
theorem dX12_sale_37 : decode cX12_sale 37 = .ok (.iconst (-1), 1) := by decide +kernel
theorem dX12_sale_38 : decode cX12_sale 38 = .ok (.ireturn, 1) := by decide +kernel
theorem dX12_sale_39 : decode cX12_sale 39 = .ok (.aload_n 0, 1) := by decide +kernel
theorem dX12_sale_40 : decode cX12_sale 40 = .ok (.iconst 0, 1) := by decide +kernel
theorem dX12_sale_41 : decode cX12_sale 41 = .ok (.putfield 162, 3) := by decide +kernel
theorem dX12_sale_44 : decode cX12_sale 44 = .ok (.aload_n 0, 1) := by decide +kernel
theorem dX12_sale_45 : decode cX12_sale 45 = .ok (.iload_n 1, 1) := by decide +kernel
theorem dX12_sale_46 : decode cX12_sale 46 = .ok (.invokevirtual 437, 3) := by decide +kernel
theorem dX12_sale_49 : decode cX12_sale 49 = .ok (.iload_n 2, 1) := by decide +kernel
theorem dX12_sale_50 : decode cX12_sale 50 = .ok (.bipush 100, 2) := by decide +kernel
theorem dX12_sale_52 : decode cX12_sale 52 = .ok (.if_icmp .ne 10, 3) := by decide +kernel
theorem dX12_sale_55 : decode cX12_sale 55 = .ok (.aload_n 0, 1) := by decide +kernel
theorem dX12_sale_56 : decode cX12_sale 56 = .ok (.getfield 120, 3) := by decide +kernel
theorem dX12_sale_59 : decode cX12_sale 59 = .ok (.iconst 0, 1) := by decide +kernel
theorem dX12_sale_60 : decode cX12_sale 60 = .ok (.iaload, 1) := by decide +kernel
theorem dX12_sale_61 : decode cX12_sale 61 = .ok (.ireturn, 1) := by decide +kernel
theorem dX12_sale_62 : decode cX12_sale 62 = .ok (.iconst 0, 1) := by decide +kernel
theorem dX12_sale_63 : decode cX12_sale 63 = .ok (.istore_n 3, 1) := by decide +kernel
theorem dX12_sale_64 : decode cX12_sale 64 = .ok (.iconst 0, 1) := by decide +kernel
theorem dX12_sale_65 : decode cX12_sale 65 = .ok (.istore 4, 2) := by decide +kernel
theorem dX12_sale_67 : decode cX12_sale 67 = .ok (.iload 4, 2) := by decide +kernel
theorem dX12_sale_69 : decode cX12_sale 69 = .ok (.iload_n 1, 1) := by decide +kernel
theorem dX12_sale_70 : decode cX12_sale 70 = .ok (.if_icmp .ge 76, 3) := by decide +kernel
theorem dX12_sale_73 : decode cX12_sale 73 = .ok (.iconst 0, 1) := by decide +kernel
theorem dX12_sale_74 : decode cX12_sale 74 = .ok (.istore 5, 2) := by decide +kernel
theorem dX12_sale_76 : decode cX12_sale 76 = .ok (.iload_n 3, 1) := by decide +kernel
theorem dX12_sale_77 : decode cX12_sale 77 = .ok (.iload 5, 2) := by decide +kernel
theorem dX12_sale_79 : decode cX12_sale 79 = .ok (.invokestatic 130, 3) := by decide +kernel
theorem dX12_sale_82 : decode cX12_sale 82 = .ok (.ifCond .ne 33, 3) := by decide +kernel
theorem dX12_sale_85 : decode cX12_sale 85 = .ok (.aload_n 0, 1) := by decide +kernel
theorem dX12_sale_86 : decode cX12_sale 86 = .ok (.iload_n 1, 1) := by decide +kernel
theorem dX12_sale_87 : decode cX12_sale 87 = .ok (.iload 4, 2) := by decide +kernel
theorem dX12_sale_89 : decode cX12_sale 89 = .ok (.iload 5, 2) := by decide +kernel
theorem dX12_sale_91 : decode cX12_sale 91 = .ok (.invokevirtual 428, 3) := by decide +kernel
theorem dX12_sale_94 : decode cX12_sale 94 = .ok (.aload_n 0, 1) := by decide +kernel
theorem dX12_sale_95 : decode cX12_sale 95 = .ok (.getfield 120, 3) := by decide +kernel
theorem dX12_sale_98 : decode cX12_sale 98 = .ok (.iload_n 3, 1) := by decide +kernel
theorem dX12_sale_99 : decode cX12_sale 99 = .ok (.iconst 1, 1) := by decide +kernel
theorem dX12_sale_100 : decode cX12_sale 100 = .ok (.iload 5, 2) := by decide +kernel
theorem dX12_sale_102 : decode cX12_sale 102 = .ok (.ishl, 1) := by decide +kernel
theorem dX12_sale_103 : decode cX12_sale 103 = .ok (.ior, 1) := by decide +kernel
theorem dX12_sale_104 : decode cX12_sale 104 = .ok (.iaload, 1) := by decide +kernel
theorem dX12_sale_105 : decode cX12_sale 105 = .ok (.iadd, 1) := by decide +kernel
theorem dX12_sale_106 : decode cX12_sale 106 = .ok (.aload_n 0, 1) := by decide +kernel
theorem dX12_sale_107 : decode cX12_sale 107 = .ok (.getfield 120, 3) := by decide +kernel
theorem dX12_sale_110 : decode cX12_sale 110 = .ok (.iload_n 3, 1) := by decide +kernel
theorem dX12_sale_111 : decode cX12_sale 111 = .ok (.iaload, 1) := by decide +kernel
theorem dX12_sale_112 : decode cX12_sale 112 = .ok (.if_icmp .eq 12, 3) := by decide +kernel
theorem dX12_sale_115 : decode cX12_sale 115 = .ok (.iload 5, 2) := by decide +kernel
theorem dX12_sale_117 : decode cX12_sale 117 = .ok (.iconst 1, 1) := by decide +kernel
theorem dX12_sale_118 : decode cX12_sale 118 = .ok (.iadd, 1) := by decide +kernel
theorem dX12_sale_119 : decode cX12_sale 119 = .ok (.istore 5, 2) := by decide +kernel
theorem dX12_sale_121 : decode cX12_sale 121 = .ok (.goto (-45), 3) := by decide +kernel
theorem dX12_sale_124 : decode cX12_sale 124 = .ok (.iload 5, 2) := by decide +kernel
theorem dX12_sale_126 : decode cX12_sale 126 = .ok (.iload_n 2, 1) := by decide +kernel
theorem dX12_sale_127 : decode cX12_sale 127 = .ok (.if_icmp .ne 6, 3) := by decide +kernel
theorem dX12_sale_130 : decode cX12_sale 130 = .ok (.iload 4, 2) := by decide +kernel
theorem dX12_sale_132 : decode cX12_sale 132 = .ok (.ireturn, 1) := by decide +kernel
theorem dX12_sale_133 : decode cX12_sale 133 = .ok (.iload_n 3, 1) := by decide +kernel
theorem dX12_sale_134 : decode cX12_sale 134 = .ok (.iconst 1, 1) := by decide +kernel
theorem dX12_sale_135 : decode cX12_sale 135 = .ok (.iload 5, 2) := by decide +kernel
theorem dX12_sale_137 : decode cX12_sale 137 = .ok (.ishl, 1) := by decide +kernel
theorem dX12_sale_138 : decode cX12_sale 138 = .ok (.ior, 1) := by decide +kernel
theorem dX12_sale_139 : decode cX12_sale 139 = .ok (.istore_n 3, 1) := by decide +kernel
theorem dX12_sale_140 : decode cX12_sale 140 = .ok (.iinc 4 1, 3) := by decide +kernel
theorem dX12_sale_143 : decode cX12_sale 143 = .ok (.goto (-76), 3) := by decide +kernel
theorem dX12_sale_146 : decode cX12_sale 146 = .ok (.iconst (-1), 1) := by decide +kernel
theorem dX12_sale_147 : decode cX12_sale 147 = .ok (.ireturn, 1) := by decide +kernel
theorem dX12_rotas_0 : decode cX12_rotas 0 = .ok (.iload_n 1, 1) := by decide +kernel
theorem dX12_rotas_1 : decode cX12_rotas 1 = .ok (.iconst 1, 1) := by decide +kernel
theorem dX12_rotas_2 : decode cX12_rotas 2 = .ok (.bipush 12, 2) := by decide +kernel
theorem dX12_rotas_4 : decode cX12_rotas 4 = .ok (.invokestatic 134, 3) := by decide +kernel
theorem dX12_rotas_7 : decode cX12_rotas 7 = .ok (.ifCond .ne 7, 3) := by decide +kernel
theorem dX12_rotas_10 : decode cX12_rotas 10 = .ok (.ldc2_w 440, 3) := by decide +kernel
theorem dX12_rotas_13 : decode cX12_rotas 13 = .ok (.lreturn, 1) := by decide +kernel
theorem dX12_rotas_14 : decode cX12_rotas 14 = .ok (.iconst 0, 1) := by decide +kernel
theorem dX12_rotas_15 : decode cX12_rotas 15 = .ok (.istore_n 2, 1) := by decide +kernel
theorem dX12_rotas_16 : decode cX12_rotas 16 = .ok (.iload_n 2, 1) := by decide +kernel
theorem dX12_rotas_17 : decode cX12_rotas 17 = .ok (.iload_n 1, 1) := by decide +kernel
theorem dX12_rotas_18 : decode cX12_rotas 18 = .ok (.if_icmp .gt 26, 3) := by decide +kernel
theorem dX12_rotas_21 : decode cX12_rotas 21 = .ok (.aload_n 0, 1) := by decide +kernel
theorem dX12_rotas_22 : decode cX12_rotas 22 = .ok (.getfield 123, 3) := by decide +kernel
theorem dX12_rotas_25 : decode cX12_rotas 25 = .ok (.iload_n 2, 1) := by decide +kernel
theorem dX12_rotas_26 : decode cX12_rotas 26 = .ok (.iload_n 2, 1) := by decide +kernel
theorem dX12_rotas_27 : decode cX12_rotas 27 = .ok (.iconst 1, 1) := by decide +kernel
theorem dX12_rotas_28 : decode cX12_rotas 28 = .ok (.if_icmp .ne 8, 3) := by decide +kernel
theorem dX12_rotas_31 : decode cX12_rotas 31 = .ok (.iload_n 1, 1) := by decide +kernel
theorem dX12_rotas_32 : decode cX12_rotas 32 = .ok (.i2l, 1) := by decide +kernel
theorem dX12_rotas_33 : decode cX12_rotas 33 = .ok (.goto 4, 3) := by decide +kernel
theorem dX12_rotas_36 : decode cX12_rotas 36 = .ok (.lconst 0, 1) := by decide +kernel
theorem dX12_rotas_37 : decode cX12_rotas 37 = .ok (.lastore, 1) := by decide +kernel
theorem dX12_rotas_38 : decode cX12_rotas 38 = .ok (.iinc 2 1, 3) := by decide +kernel
theorem dX12_rotas_41 : decode cX12_rotas 41 = .ok (.goto (-25), 3) := by decide +kernel
theorem dX12_rotas_44 : decode cX12_rotas 44 = .ok (.iconst 1, 1) := by decide +kernel
theorem dX12_rotas_45 : decode cX12_rotas 45 = .ok (.istore_n 2, 1) := by decide +kernel
theorem dX12_rotas_46 : decode cX12_rotas 46 = .ok (.iload_n 2, 1) := by decide +kernel
theorem dX12_rotas_47 : decode cX12_rotas 47 = .ok (.bipush 12, 2) := by decide +kernel
theorem dX12_rotas_49 : decode cX12_rotas 49 = .ok (.if_icmp .ge 88, 3) := by decide +kernel
theorem dX12_rotas_52 : decode cX12_rotas 52 = .ok (.iconst 0, 1) := by decide +kernel
theorem dX12_rotas_53 : decode cX12_rotas 53 = .ok (.istore_n 3, 1) := by decide +kernel
theorem dX12_rotas_54 : decode cX12_rotas 54 = .ok (.iload_n 3, 1) := by decide +kernel
theorem dX12_rotas_55 : decode cX12_rotas 55 = .ok (.iload_n 1, 1) := by decide +kernel
theorem dX12_rotas_56 : decode cX12_rotas 56 = .ok (.if_icmp .gt 50, 3) := by decide +kernel
theorem dX12_rotas_59 : decode cX12_rotas 59 = .ok (.aload_n 0, 1) := by decide +kernel
theorem dX12_rotas_60 : decode cX12_rotas 60 = .ok (.getfield 127, 3) := by decide +kernel
theorem dX12_rotas_63 : decode cX12_rotas 63 = .ok (.iload_n 3, 1) := by decide +kernel
theorem dX12_rotas_64 : decode cX12_rotas 64 = .ok (.iload_n 3, 1) := by decide +kernel
theorem dX12_rotas_65 : decode cX12_rotas 65 = .ok (.ifCond .ne 7, 3) := by decide +kernel
theorem dX12_rotas_68 : decode cX12_rotas 68 = .ok (.lconst 0, 1) := by decide +kernel
theorem dX12_rotas_69 : decode cX12_rotas 69 = .ok (.goto 30, 3) := by decide +kernel
theorem dX12_rotas_72 : decode cX12_rotas 72 = .ok (.aload_n 0, 1) := by decide +kernel
theorem dX12_rotas_73 : decode cX12_rotas 73 = .ok (.getfield 123, 3) := by decide +kernel
theorem dX12_rotas_76 : decode cX12_rotas 76 = .ok (.iload_n 3, 1) := by decide +kernel
theorem dX12_rotas_77 : decode cX12_rotas 77 = .ok (.laload, 1) := by decide +kernel
theorem dX12_rotas_78 : decode cX12_rotas 78 = .ok (.iload_n 3, 1) := by decide +kernel
theorem dX12_rotas_79 : decode cX12_rotas 79 = .ok (.iconst 1, 1) := by decide +kernel
theorem dX12_rotas_80 : decode cX12_rotas 80 = .ok (.isub, 1) := by decide +kernel
theorem dX12_rotas_81 : decode cX12_rotas 81 = .ok (.i2l, 1) := by decide +kernel
theorem dX12_rotas_82 : decode cX12_rotas 82 = .ok (.lmul, 1) := by decide +kernel
theorem dX12_rotas_83 : decode cX12_rotas 83 = .ok (.aload_n 0, 1) := by decide +kernel
theorem dX12_rotas_84 : decode cX12_rotas 84 = .ok (.getfield 123, 3) := by decide +kernel
theorem dX12_rotas_87 : decode cX12_rotas 87 = .ok (.iload_n 3, 1) := by decide +kernel
theorem dX12_rotas_88 : decode cX12_rotas 88 = .ok (.iconst 1, 1) := by decide +kernel
theorem dX12_rotas_89 : decode cX12_rotas 89 = .ok (.isub, 1) := by decide +kernel
theorem dX12_rotas_90 : decode cX12_rotas 90 = .ok (.laload, 1) := by decide +kernel
theorem dX12_rotas_91 : decode cX12_rotas 91 = .ok (.iload_n 1, 1) := by decide +kernel
theorem dX12_rotas_92 : decode cX12_rotas 92 = .ok (.iload_n 3, 1) := by decide +kernel
theorem dX12_rotas_93 : decode cX12_rotas 93 = .ok (.isub, 1) := by decide +kernel
theorem dX12_rotas_94 : decode cX12_rotas 94 = .ok (.iconst 1, 1) := by decide +kernel
theorem dX12_rotas_95 : decode cX12_rotas 95 = .ok (.iadd, 1) := by decide +kernel
theorem dX12_rotas_96 : decode cX12_rotas 96 = .ok (.i2l, 1) := by decide +kernel
theorem dX12_rotas_97 : decode cX12_rotas 97 = .ok (.lmul, 1) := by decide +kernel
theorem dX12_rotas_98 : decode cX12_rotas 98 = .ok (.ladd, 1) := by decide +kernel
theorem dX12_rotas_99 : decode cX12_rotas 99 = .ok (.lastore, 1) := by decide +kernel
theorem dX12_rotas_100 : decode cX12_rotas 100 = .ok (.iinc 3 1, 3) := by decide +kernel
theorem dX12_rotas_103 : decode cX12_rotas 103 = .ok (.goto (-49), 3) := by decide +kernel
theorem dX12_rotas_106 : decode cX12_rotas 106 = .ok (.iconst 0, 1) := by decide +kernel
theorem dX12_rotas_107 : decode cX12_rotas 107 = .ok (.istore_n 3, 1) := by decide +kernel
theorem dX12_rotas_108 : decode cX12_rotas 108 = .ok (.iload_n 3, 1) := by decide +kernel
theorem dX12_rotas_109 : decode cX12_rotas 109 = .ok (.iload_n 1, 1) := by decide +kernel
theorem dX12_rotas_110 : decode cX12_rotas 110 = .ok (.if_icmp .gt 21, 3) := by decide +kernel
theorem dX12_rotas_113 : decode cX12_rotas 113 = .ok (.aload_n 0, 1) := by decide +kernel
theorem dX12_rotas_114 : decode cX12_rotas 114 = .ok (.getfield 123, 3) := by decide +kernel
theorem dX12_rotas_117 : decode cX12_rotas 117 = .ok (.iload_n 3, 1) := by decide +kernel
theorem dX12_rotas_118 : decode cX12_rotas 118 = .ok (.aload_n 0, 1) := by decide +kernel
theorem dX12_rotas_119 : decode cX12_rotas 119 = .ok (.getfield 127, 3) := by decide +kernel
theorem dX12_rotas_122 : decode cX12_rotas 122 = .ok (.iload_n 3, 1) := by decide +kernel
theorem dX12_rotas_123 : decode cX12_rotas 123 = .ok (.laload, 1) := by decide +kernel
theorem dX12_rotas_124 : decode cX12_rotas 124 = .ok (.lastore, 1) := by decide +kernel
theorem dX12_rotas_125 : decode cX12_rotas 125 = .ok (.iinc 3 1, 3) := by decide +kernel
theorem dX12_rotas_128 : decode cX12_rotas 128 = .ok (.goto (-20), 3) := by decide +kernel
theorem dX12_rotas_131 : decode cX12_rotas 131 = .ok (.iinc 2 1, 3) := by decide +kernel
theorem dX12_rotas_134 : decode cX12_rotas 134 = .ok (.goto (-88), 3) := by decide +kernel
theorem dX12_rotas_137 : decode cX12_rotas 137 = .ok (.aload_n 0, 1) := by decide +kernel
theorem dX12_rotas_138 : decode cX12_rotas 138 = .ok (.getfield 123, 3) := by decide +kernel
theorem dX12_rotas_141 : decode cX12_rotas 141 = .ok (.iload_n 1, 1) := by decide +kernel
theorem dX12_rotas_142 : decode cX12_rotas 142 = .ok (.laload, 1) := by decide +kernel
theorem dX12_rotas_143 : decode cX12_rotas 143 = .ok (.lreturn, 1) := by decide +kernel
theorem dX12_areClear_0 : decode cX12_areClear 0 = .ok (.iload_n 1, 1) := by decide +kernel
theorem dX12_areClear_1 : decode cX12_areClear 1 = .ok (.istore_n 3, 1) := by decide +kernel
theorem dX12_areClear_2 : decode cX12_areClear 2 = .ok (.iload_n 3, 1) := by decide +kernel
theorem dX12_areClear_3 : decode cX12_areClear 3 = .ok (.iload_n 2, 1) := by decide +kernel
theorem dX12_areClear_4 : decode cX12_areClear 4 = .ok (.if_icmp .gt 19, 3) := by decide +kernel
theorem dX12_areClear_7 : decode cX12_areClear 7 = .ok (.iload_n 0, 1) := by decide +kernel
theorem dX12_areClear_8 : decode cX12_areClear 8 = .ok (.iload_n 3, 1) := by decide +kernel
theorem dX12_areClear_9 : decode cX12_areClear 9 = .ok (.invokestatic 130, 3) := by decide +kernel
theorem dX12_areClear_12 : decode cX12_areClear 12 = .ok (.ifCond .eq 5, 3) := by decide +kernel
theorem dX12_areClear_15 : decode cX12_areClear 15 = .ok (.iconst 0, 1) := by decide +kernel
theorem dX12_areClear_16 : decode cX12_areClear 16 = .ok (.ireturn, 1) := by decide +kernel
theorem dX12_areClear_17 : decode cX12_areClear 17 = .ok (.iinc 3 1, 3) := by decide +kernel
theorem dX12_areClear_20 : decode cX12_areClear 20 = .ok (.goto (-18), 3) := by decide +kernel
theorem dX12_areClear_23 : decode cX12_areClear 23 = .ok (.iconst 1, 1) := by decide +kernel
theorem dX12_areClear_24 : decode cX12_areClear 24 = .ok (.ireturn, 1) := by decide +kernel
theorem dX12_tallFrom_0 : decode cX12_tallFrom 0 = .ok (.iconst 0, 1) := by decide +kernel
theorem dX12_tallFrom_1 : decode cX12_tallFrom 1 = .ok (.istore 5, 2) := by decide +kernel
theorem dX12_tallFrom_3 : decode cX12_tallFrom 3 = .ok (.iload_n 1, 1) := by decide +kernel
theorem dX12_tallFrom_4 : decode cX12_tallFrom 4 = .ok (.iload 5, 2) := by decide +kernel
theorem dX12_tallFrom_6 : decode cX12_tallFrom 6 = .ok (.iadd, 1) := by decide +kernel
theorem dX12_tallFrom_7 : decode cX12_tallFrom 7 = .ok (.iload_n 2, 1) := by decide +kernel
theorem dX12_tallFrom_8 : decode cX12_tallFrom 8 = .ok (.if_icmp .ge 29, 3) := by decide +kernel
theorem dX12_tallFrom_11 : decode cX12_tallFrom 11 = .ok (.aload_n 0, 1) := by decide +kernel
theorem dX12_tallFrom_12 : decode cX12_tallFrom 12 = .ok (.iload_n 1, 1) := by decide +kernel
theorem dX12_tallFrom_13 : decode cX12_tallFrom 13 = .ok (.iload 5, 2) := by decide +kernel
theorem dX12_tallFrom_15 : decode cX12_tallFrom 15 = .ok (.iadd, 1) := by decide +kernel
theorem dX12_tallFrom_16 : decode cX12_tallFrom 16 = .ok (.invokevirtual 400, 3) := by decide +kernel
theorem dX12_tallFrom_19 : decode cX12_tallFrom 19 = .ok (.iload_n 3, 1) := by decide +kernel
theorem dX12_tallFrom_20 : decode cX12_tallFrom 20 = .ok (.iload 4, 2) := by decide +kernel
theorem dX12_tallFrom_22 : decode cX12_tallFrom 22 = .ok (.invokestatic 442, 3) := by decide +kernel
theorem dX12_tallFrom_25 : decode cX12_tallFrom 25 = .ok (.ifCond .eq 12, 3) := by decide +kernel
theorem dX12_tallFrom_28 : decode cX12_tallFrom 28 = .ok (.iload 5, 2) := by decide +kernel
theorem dX12_tallFrom_30 : decode cX12_tallFrom 30 = .ok (.iconst 1, 1) := by decide +kernel
theorem dX12_tallFrom_31 : decode cX12_tallFrom 31 = .ok (.iadd, 1) := by decide +kernel
theorem dX12_tallFrom_32 : decode cX12_tallFrom 32 = .ok (.istore 5, 2) := by decide +kernel
theorem dX12_tallFrom_34 : decode cX12_tallFrom 34 = .ok (.goto (-31), 3) := by decide +kernel
theorem dX12_tallFrom_37 : decode cX12_tallFrom 37 = .ok (.iload 5, 2) := by decide +kernel
theorem dX12_tallFrom_39 : decode cX12_tallFrom 39 = .ok (.ireturn, 1) := by decide +kernel
theorem dX12_panes_0 : decode cX12_panes 0 = .ok (.iload_n 1, 1) := by decide +kernel
theorem dX12_panes_1 : decode cX12_panes 1 = .ok (.iconst 1, 1) := by decide +kernel
theorem dX12_panes_2 : decode cX12_panes 2 = .ok (.bipush 6, 2) := by decide +kernel
theorem dX12_panes_4 : decode cX12_panes 4 = .ok (.invokestatic 134, 3) := by decide +kernel
theorem dX12_panes_7 : decode cX12_panes 7 = .ok (.ifCond .eq 21, 3) := by decide +kernel
theorem dX12_panes_10 : decode cX12_panes 10 = .ok (.iload_n 2, 1) := by decide +kernel
theorem dX12_panes_11 : decode cX12_panes 11 = .ok (.iconst 1, 1) := by decide +kernel
theorem dX12_panes_12 : decode cX12_panes 12 = .ok (.bipush 6, 2) := by decide +kernel
theorem dX12_panes_14 : decode cX12_panes 14 = .ok (.invokestatic 134, 3) := by decide +kernel
theorem dX12_panes_17 : decode cX12_panes 17 = .ok (.ifCond .eq 11, 3) := by decide +kernel
theorem dX12_panes_20 : decode cX12_panes 20 = .ok (.iload_n 1, 1) := by decide +kernel
theorem dX12_panes_21 : decode cX12_panes 21 = .ok (.aload_n 0, 1) := by decide +kernel
theorem dX12_panes_22 : decode cX12_panes 22 = .ok (.getfield 162, 3) := by decide +kernel
theorem dX12_panes_25 : decode cX12_panes 25 = .ok (.if_icmp .le 5, 3) := by decide +kernel
theorem dX12_panes_28 : decode cX12_panes 28 = .ok (.iconst (-1), 1) := by decide +kernel
theorem dX12_panes_29 : decode cX12_panes 29 = .ok (.ireturn, 1) := by decide +kernel
theorem dX12_panes_30 : decode cX12_panes 30 = .ok (.aload_n 0, 1) := by decide +kernel
theorem dX12_panes_31 : decode cX12_panes 31 = .ok (.iconst 0, 1) := by decide +kernel
theorem dX12_panes_32 : decode cX12_panes 32 = .ok (.putfield 162, 3) := by decide +kernel
theorem dX12_panes_35 : decode cX12_panes 35 = .ok (.iconst 0, 1) := by decide +kernel
theorem dX12_panes_36 : decode cX12_panes 36 = .ok (.istore_n 3, 1) := by decide +kernel
theorem dX12_panes_37 : decode cX12_panes 37 = .ok (.iconst 0, 1) := by decide +kernel
theorem dX12_panes_38 : decode cX12_panes 38 = .ok (.istore 4, 2) := by decide +kernel
theorem dX12_panes_40 : decode cX12_panes 40 = .ok (.iload 4, 2) := by decide +kernel
theorem dX12_panes_42 : decode cX12_panes 42 = .ok (.iload_n 2, 1) := by decide +kernel
theorem dX12_panes_43 : decode cX12_panes 43 = .ok (.iload_n 2, 1) := by decide +kernel
theorem dX12_panes_44 : decode cX12_panes 44 = .ok (.imul, 1) := by decide +kernel
theorem dX12_panes_45 : decode cX12_panes 45 = .ok (.if_icmp .ge 67, 3) := by decide +kernel
theorem dX12_panes_48 : decode cX12_panes 48 = .ok (.iload 4, 2) := by decide +kernel
theorem dX12_panes_50 : decode cX12_panes 50 = .ok (.iload_n 2, 1) := by decide +kernel
theorem dX12_panes_51 : decode cX12_panes 51 = .ok (.idiv, 1) := by decide +kernel
theorem dX12_panes_52 : decode cX12_panes 52 = .ok (.istore 5, 2) := by decide +kernel
theorem dX12_panes_54 : decode cX12_panes 54 = .ok (.iload 4, 2) := by decide +kernel
theorem dX12_panes_56 : decode cX12_panes 56 = .ok (.iload_n 2, 1) := by decide +kernel
theorem dX12_panes_57 : decode cX12_panes 57 = .ok (.irem, 1) := by decide +kernel
theorem dX12_panes_58 : decode cX12_panes 58 = .ok (.istore 6, 2) := by decide +kernel
theorem dX12_panes_60 : decode cX12_panes 60 = .ok (.iconst 0, 1) := by decide +kernel
theorem dX12_panes_61 : decode cX12_panes 61 = .ok (.istore 7, 2) := by decide +kernel
theorem dX12_panes_63 : decode cX12_panes 63 = .ok (.iload 7, 2) := by decide +kernel
theorem dX12_panes_65 : decode cX12_panes 65 = .ok (.iload_n 1, 1) := by decide +kernel
theorem dX12_panes_66 : decode cX12_panes 66 = .ok (.if_icmp .ge 40, 3) := by decide +kernel
theorem dX12_panes_69 : decode cX12_panes 69 = .ok (.iload 5, 2) := by decide +kernel
theorem dX12_panes_71 : decode cX12_panes 71 = .ok (.iload 6, 2) := by decide +kernel
theorem dX12_panes_73 : decode cX12_panes 73 = .ok (.if_icmp .gt 33, 3) := by decide +kernel
theorem dX12_panes_76 : decode cX12_panes 76 = .ok (.iload_n 3, 1) := by decide +kernel
theorem dX12_panes_77 : decode cX12_panes 77 = .ok (.aload_n 0, 1) := by decide +kernel
theorem dX12_panes_78 : decode cX12_panes 78 = .ok (.iload 7, 2) := by decide +kernel
theorem dX12_panes_80 : decode cX12_panes 80 = .ok (.iload_n 1, 1) := by decide +kernel
theorem dX12_panes_81 : decode cX12_panes 81 = .ok (.iload 5, 2) := by decide +kernel
theorem dX12_panes_83 : decode cX12_panes 83 = .ok (.iload 6, 2) := by decide +kernel
theorem dX12_panes_85 : decode cX12_panes 85 = .ok (.invokevirtual 445, 3) := by decide +kernel
theorem dX12_panes_88 : decode cX12_panes 88 = .ok (.iload 6, 2) := by decide +kernel
theorem dX12_panes_90 : decode cX12_panes 90 = .ok (.iload 5, 2) := by decide +kernel
theorem dX12_panes_92 : decode cX12_panes 92 = .ok (.isub, 1) := by decide +kernel
theorem dX12_panes_93 : decode cX12_panes 93 = .ok (.iconst 1, 1) := by decide +kernel
theorem dX12_panes_94 : decode cX12_panes 94 = .ok (.iadd, 1) := by decide +kernel
theorem dX12_panes_95 : decode cX12_panes 95 = .ok (.imul, 1) := by decide +kernel
theorem dX12_panes_96 : decode cX12_panes 96 = .ok (.invokestatic 362, 3) := by decide +kernel
theorem dX12_panes_99 : decode cX12_panes 99 = .ok (.istore_n 3, 1) := by decide +kernel
theorem dX12_panes_100 : decode cX12_panes 100 = .ok (.iinc 7 1, 3) := by decide +kernel
theorem dX12_panes_103 : decode cX12_panes 103 = .ok (.goto (-40), 3) := by decide +kernel
theorem dX12_panes_106 : decode cX12_panes 106 = .ok (.iinc 4 1, 3) := by decide +kernel
theorem dX12_panes_109 : decode cX12_panes 109 = .ok (.goto (-69), 3) := by decide +kernel
theorem dX12_panes_112 : decode cX12_panes 112 = .ok (.iload_n 3, 1) := by decide +kernel
theorem dX12_panes_113 : decode cX12_panes 113 = .ok (.ireturn, 1) := by decide +kernel
theorem dX12_hasBy_0 : decode cX12_hasBy 0 = .ok (.iconst (-1), 1) := by decide +kernel
theorem dX12_hasBy_1 : decode cX12_hasBy 1 = .ok (.istore_n 3, 1) := by decide +kernel
theorem dX12_hasBy_2 : decode cX12_hasBy 2 = .ok (.iconst 0, 1) := by decide +kernel
theorem dX12_hasBy_3 : decode cX12_hasBy 3 = .ok (.istore 4, 2) := by decide +kernel
theorem dX12_hasBy_5 : decode cX12_hasBy 5 = .ok (.iload 4, 2) := by decide +kernel
theorem dX12_hasBy_7 : decode cX12_hasBy 7 = .ok (.iload_n 1, 1) := by decide +kernel
theorem dX12_hasBy_8 : decode cX12_hasBy 8 = .ok (.if_icmp .ge 43, 3) := by decide +kernel
theorem dX12_hasBy_11 : decode cX12_hasBy 11 = .ok (.iload 4, 2) := by decide +kernel
theorem dX12_hasBy_13 : decode cX12_hasBy 13 = .ok (.iload_n 2, 1) := by decide +kernel
theorem dX12_hasBy_14 : decode cX12_hasBy 14 = .ok (.if_icmp .lt 20, 3) := by decide +kernel
theorem dX12_hasBy_17 : decode cX12_hasBy 17 = .ok (.aload_n 0, 1) := by decide +kernel
theorem dX12_hasBy_18 : decode cX12_hasBy 18 = .ok (.iload 4, 2) := by decide +kernel
theorem dX12_hasBy_20 : decode cX12_hasBy 20 = .ok (.invokevirtual 400, 3) := by decide +kernel
theorem dX12_hasBy_23 : decode cX12_hasBy 23 = .ok (.iload_n 3, 1) := by decide +kernel
theorem dX12_hasBy_24 : decode cX12_hasBy 24 = .ok (.if_icmp .le 10, 3) := by decide +kernel
theorem dX12_hasBy_27 : decode cX12_hasBy 27 = .ok (.aload_n 0, 1) := by decide +kernel
theorem dX12_hasBy_28 : decode cX12_hasBy 28 = .ok (.iload 4, 2) := by decide +kernel
theorem dX12_hasBy_30 : decode cX12_hasBy 30 = .ok (.invokevirtual 400, 3) := by decide +kernel
theorem dX12_hasBy_33 : decode cX12_hasBy 33 = .ok (.ireturn, 1) := by decide +kernel
theorem dX12_hasBy_34 : decode cX12_hasBy 34 = .ok (.iload_n 3, 1) := by decide +kernel
theorem dX12_hasBy_35 : decode cX12_hasBy 35 = .ok (.aload_n 0, 1) := by decide +kernel
theorem dX12_hasBy_36 : decode cX12_hasBy 36 = .ok (.iload 4, 2) := by decide +kernel
theorem dX12_hasBy_38 : decode cX12_hasBy 38 = .ok (.invokevirtual 400, 3) := by decide +kernel
theorem dX12_hasBy_41 : decode cX12_hasBy 41 = .ok (.invokestatic 362, 3) := by decide +kernel
theorem dX12_hasBy_44 : decode cX12_hasBy 44 = .ok (.istore_n 3, 1) := by decide +kernel
theorem dX12_hasBy_45 : decode cX12_hasBy 45 = .ok (.iinc 4 1, 3) := by decide +kernel
theorem dX12_hasBy_48 : decode cX12_hasBy 48 = .ok (.goto (-43), 3) := by decide +kernel
theorem dX12_hasBy_51 : decode cX12_hasBy 51 = .ok (.aload_n 0, 1) := by decide +kernel
theorem dX12_hasBy_52 : decode cX12_hasBy 52 = .ok (.iload_n 1, 1) := by decide +kernel
theorem dX12_hasBy_53 : decode cX12_hasBy 53 = .ok (.iconst 1, 1) := by decide +kernel
theorem dX12_hasBy_54 : decode cX12_hasBy 54 = .ok (.isub, 1) := by decide +kernel
theorem dX12_hasBy_55 : decode cX12_hasBy 55 = .ok (.invokevirtual 400, 3) := by decide +kernel
theorem dX12_hasBy_58 : decode cX12_hasBy 58 = .ok (.ireturn, 1) := by decide +kernel
theorem dX12_keepIt_0 : decode cX12_keepIt 0 = .ok (.iload_n 1, 1) := by decide +kernel
theorem dX12_keepIt_1 : decode cX12_keepIt 1 = .ok (.iconst 1, 1) := by decide +kernel
theorem dX12_keepIt_2 : decode cX12_keepIt 2 = .ok (.bipush 20, 2) := by decide +kernel
theorem dX12_keepIt_4 : decode cX12_keepIt 4 = .ok (.invokestatic 134, 3) := by decide +kernel
theorem dX12_keepIt_7 : decode cX12_keepIt 7 = .ok (.ifCond .eq 22, 3) := by decide +kernel
theorem dX12_keepIt_10 : decode cX12_keepIt 10 = .ok (.iload_n 2, 1) := by decide +kernel
theorem dX12_keepIt_11 : decode cX12_keepIt 11 = .ok (.iconst (-1), 1) := by decide +kernel
theorem dX12_keepIt_12 : decode cX12_keepIt 12 = .ok (.iload_n 1, 1) := by decide +kernel
theorem dX12_keepIt_13 : decode cX12_keepIt 13 = .ok (.iconst 1, 1) := by decide +kernel
theorem dX12_keepIt_14 : decode cX12_keepIt 14 = .ok (.isub, 1) := by decide +kernel
theorem dX12_keepIt_15 : decode cX12_keepIt 15 = .ok (.invokestatic 134, 3) := by decide +kernel
theorem dX12_keepIt_18 : decode cX12_keepIt 18 = .ok (.ifCond .eq 11, 3) := by decide +kernel
theorem dX12_keepIt_21 : decode cX12_keepIt 21 = .ok (.iload_n 1, 1) := by decide +kernel
theorem dX12_keepIt_22 : decode cX12_keepIt 22 = .ok (.aload_n 0, 1) := by decide +kernel
theorem dX12_keepIt_23 : decode cX12_keepIt 23 = .ok (.getfield 162, 3) := by decide +kernel
theorem dX12_keepIt_26 : decode cX12_keepIt 26 = .ok (.if_icmp .le 5, 3) := by decide +kernel
theorem dX12_keepIt_29 : decode cX12_keepIt 29 = .ok (.iconst (-1), 1) := by decide +kernel
theorem dX12_keepIt_30 : decode cX12_keepIt 30 = .ok (.ireturn, 1) := by decide +kernel
theorem dX12_keepIt_31 : decode cX12_keepIt 31 = .ok (.aload_n 0, 1) := by decide +kernel
theorem dX12_keepIt_32 : decode cX12_keepIt 32 = .ok (.iconst 0, 1) := by decide +kernel
theorem dX12_keepIt_33 : decode cX12_keepIt 33 = .ok (.putfield 162, 3) := by decide +kernel
theorem dX12_keepIt_36 : decode cX12_keepIt 36 = .ok (.iload_n 2, 1) := by decide +kernel
theorem dX12_keepIt_37 : decode cX12_keepIt 37 = .ok (.iconst (-1), 1) := by decide +kernel
theorem dX12_keepIt_38 : decode cX12_keepIt 38 = .ok (.if_icmp .eq 10, 3) := by decide +kernel
theorem dX12_keepIt_41 : decode cX12_keepIt 41 = .ok (.aload_n 0, 1) := by decide +kernel
theorem dX12_keepIt_42 : decode cX12_keepIt 42 = .ok (.iload_n 1, 1) := by decide +kernel
theorem dX12_keepIt_43 : decode cX12_keepIt 43 = .ok (.iload_n 2, 1) := by decide +kernel
theorem dX12_keepIt_44 : decode cX12_keepIt 44 = .ok (.invokevirtual 449, 3) := by decide +kernel
theorem dX12_keepIt_47 : decode cX12_keepIt 47 = .ok (.ireturn, 1) := by decide +kernel
theorem dX12_keepIt_48 : decode cX12_keepIt 48 = .ok (.iconst 0, 1) := by decide +kernel
theorem dX12_keepIt_49 : decode cX12_keepIt 49 = .ok (.istore_n 3, 1) := by decide +kernel
theorem dX12_keepIt_50 : decode cX12_keepIt 50 = .ok (.iconst 1, 1) := by decide +kernel
theorem dX12_keepIt_51 : decode cX12_keepIt 51 = .ok (.istore 4, 2) := by decide +kernel
theorem dX12_keepIt_53 : decode cX12_keepIt 53 = .ok (.iload 4, 2) := by decide +kernel
theorem dX12_keepIt_55 : decode cX12_keepIt 55 = .ok (.iload_n 1, 1) := by decide +kernel
theorem dX12_keepIt_56 : decode cX12_keepIt 56 = .ok (.if_icmp .ge 28, 3) := by decide +kernel
theorem dX12_keepIt_59 : decode cX12_keepIt 59 = .ok (.aload_n 0, 1) := by decide +kernel
theorem dX12_keepIt_60 : decode cX12_keepIt 60 = .ok (.iload_n 1, 1) := by decide +kernel
theorem dX12_keepIt_61 : decode cX12_keepIt 61 = .ok (.iload 4, 2) := by decide +kernel
theorem dX12_keepIt_63 : decode cX12_keepIt 63 = .ok (.invokevirtual 449, 3) := by decide +kernel
theorem dX12_keepIt_66 : decode cX12_keepIt 66 = .ok (.aload_n 0, 1) := by decide +kernel
theorem dX12_keepIt_67 : decode cX12_keepIt 67 = .ok (.iload_n 1, 1) := by decide +kernel
theorem dX12_keepIt_68 : decode cX12_keepIt 68 = .ok (.iload_n 3, 1) := by decide +kernel
theorem dX12_keepIt_69 : decode cX12_keepIt 69 = .ok (.invokevirtual 449, 3) := by decide +kernel
theorem dX12_keepIt_72 : decode cX12_keepIt 72 = .ok (.if_icmp .le 6, 3) := by decide +kernel
theorem dX12_keepIt_75 : decode cX12_keepIt 75 = .ok (.iload 4, 2) := by decide +kernel
theorem dX12_keepIt_77 : decode cX12_keepIt 77 = .ok (.istore_n 3, 1) := by decide +kernel
theorem dX12_keepIt_78 : decode cX12_keepIt 78 = .ok (.iinc 4 1, 3) := by decide +kernel
theorem dX12_keepIt_81 : decode cX12_keepIt 81 = .ok (.goto (-28), 3) := by decide +kernel
theorem dX12_keepIt_84 : decode cX12_keepIt 84 = .ok (.iload_n 3, 1) := by decide +kernel
theorem dX12_keepIt_85 : decode cX12_keepIt 85 = .ok (.ireturn, 1) := by decide +kernel
theorem dX12_seed_0 : decode cX12_seed 0 = .ok (.iload_n 1, 1) := by decide +kernel
theorem dX12_seed_1 : decode cX12_seed 1 = .ok (.iconst 0, 1) := by decide +kernel
theorem dX12_seed_2 : decode cX12_seed 2 = .ok (.ldc_w 399, 3) := by decide +kernel
theorem dX12_seed_5 : decode cX12_seed 5 = .ok (.invokestatic 134, 3) := by decide +kernel
theorem dX12_seed_8 : decode cX12_seed 8 = .ok (.ifCond .ne 5, 3) := by decide +kernel
theorem dX12_seed_11 : decode cX12_seed 11 = .ok (.iconst 0, 1) := by decide +kernel
theorem dX12_seed_12 : decode cX12_seed 12 = .ok (.ireturn, 1) := by decide +kernel
theorem dX12_seed_13 : decode cX12_seed 13 = .ok (.aload_n 0, 1) := by decide +kernel
theorem dX12_seed_14 : decode cX12_seed 14 = .ok (.getfield 7, 3) := by decide +kernel
theorem dX12_seed_17 : decode cX12_seed 17 = .ok (.bipush 20, 2) := by decide +kernel
theorem dX12_seed_19 : decode cX12_seed 19 = .ok (.iload_n 1, 1) := by decide +kernel
theorem dX12_seed_20 : decode cX12_seed 20 = .ok (.iastore, 1) := by decide +kernel
theorem dX12_seed_21 : decode cX12_seed 21 = .ok (.iconst 1, 1) := by decide +kernel
theorem dX12_seed_22 : decode cX12_seed 22 = .ok (.ireturn, 1) := by decide +kernel
theorem dX12_keep_0 : decode cX12_keep 0 = .ok (.aload_n 0, 1) := by decide +kernel
theorem dX12_keep_1 : decode cX12_keep 1 = .ok (.iconst 1, 1) := by decide +kernel
theorem dX12_keep_2 : decode cX12_keep 2 = .ok (.putfield 452, 3) := by decide +kernel
theorem dX12_keep_5 : decode cX12_keep 5 = .ok (.aload_n 0, 1) := by decide +kernel
theorem dX12_keep_6 : decode cX12_keep 6 = .ok (.aload_n 0, 1) := by decide +kernel
theorem dX12_keep_7 : decode cX12_keep 7 = .ok (.getfield 138, 3) := by decide +kernel
theorem dX12_keep_10 : decode cX12_keep 10 = .ok (.putfield 456, 3) := by decide +kernel
theorem dX12_keep_13 : decode cX12_keep 13 = .ok (.aload_n 0, 1) := by decide +kernel
theorem dX12_keep_14 : decode cX12_keep 14 = .ok (.getfield 7, 3) := by decide +kernel
theorem dX12_keep_17 : decode cX12_keep 17 = .ok (.aload_n 0, 1) := by decide +kernel
theorem dX12_keep_18 : decode cX12_keep 18 = .ok (.getfield 16, 3) := by decide +kernel
theorem dX12_keep_21 : decode cX12_keep 21 = .ok (.invokestatic 352, 3) := by decide +kernel
theorem dX12_keep_24 : decode cX12_keep 24 = .ok (.aload_n 0, 1) := by decide +kernel
theorem dX12_keep_25 : decode cX12_keep 25 = .ok (.getfield 7, 3) := by decide +kernel
theorem dX12_keep_28 : decode cX12_keep 28 = .ok (.bipush 19, 2) := by decide +kernel
theorem dX12_keep_30 : decode cX12_keep 30 = .ok (.iaload, 1) := by decide +kernel
theorem dX12_keep_31 : decode cX12_keep 31 = .ok (.ireturn, 1) := by decide +kernel
theorem dX12_undo_0 : decode cX12_undo 0 = .ok (.aload_n 0, 1) := by decide +kernel
theorem dX12_undo_1 : decode cX12_undo 1 = .ok (.getfield 452, 3) := by decide +kernel
theorem dX12_undo_4 : decode cX12_undo 4 = .ok (.ifCond .ne 5, 3) := by decide +kernel
theorem dX12_undo_7 : decode cX12_undo 7 = .ok (.iconst 0, 1) := by decide +kernel
theorem dX12_undo_8 : decode cX12_undo 8 = .ok (.ireturn, 1) := by decide +kernel
theorem dX12_undo_9 : decode cX12_undo 9 = .ok (.aload_n 0, 1) := by decide +kernel
theorem dX12_undo_10 : decode cX12_undo 10 = .ok (.getfield 16, 3) := by decide +kernel
theorem dX12_undo_13 : decode cX12_undo 13 = .ok (.aload_n 0, 1) := by decide +kernel
theorem dX12_undo_14 : decode cX12_undo 14 = .ok (.getfield 7, 3) := by decide +kernel
theorem dX12_undo_17 : decode cX12_undo 17 = .ok (.invokestatic 352, 3) := by decide +kernel
theorem dX12_undo_20 : decode cX12_undo 20 = .ok (.iconst 0, 1) := by decide +kernel
theorem dX12_undo_21 : decode cX12_undo 21 = .ok (.istore_n 1, 1) := by decide +kernel
theorem dX12_undo_22 : decode cX12_undo 22 = .ok (.iload_n 1, 1) := by decide +kernel
theorem dX12_undo_23 : decode cX12_undo 23 = .ok (.bipush 16, 2) := by decide +kernel
theorem dX12_undo_25 : decode cX12_undo 25 = .ok (.if_icmp .ge 34, 3) := by decide +kernel
theorem dX12_undo_28 : decode cX12_undo 28 = .ok (.aload_n 0, 1) := by decide +kernel
theorem dX12_undo_29 : decode cX12_undo 29 = .ok (.getfield 456, 3) := by decide +kernel
theorem dX12_undo_32 : decode cX12_undo 32 = .ok (.aload_n 0, 1) := by decide +kernel
theorem dX12_undo_33 : decode cX12_undo 33 = .ok (.getfield 138, 3) := by decide +kernel
theorem dX12_undo_36 : decode cX12_undo 36 = .ok (.iand, 1) := by decide +kernel
theorem dX12_undo_37 : decode cX12_undo 37 = .ok (.iload_n 1, 1) := by decide +kernel
theorem dX12_undo_38 : decode cX12_undo 38 = .ok (.invokestatic 130, 3) := by decide +kernel
theorem dX12_undo_41 : decode cX12_undo 41 = .ok (.ifCond .ne 12, 3) := by decide +kernel
theorem dX12_undo_44 : decode cX12_undo 44 = .ok (.aload_n 0, 1) := by decide +kernel
theorem dX12_undo_45 : decode cX12_undo 45 = .ok (.getfield 7, 3) := by decide +kernel
theorem dX12_undo_48 : decode cX12_undo 48 = .ok (.iconst 0, 1) := by decide +kernel
theorem dX12_undo_49 : decode cX12_undo 49 = .ok (.iload_n 1, 1) := by decide +kernel
theorem dX12_undo_50 : decode cX12_undo 50 = .ok (.iadd, 1) := by decide +kernel
theorem dX12_undo_51 : decode cX12_undo 51 = .ok (.iconst 0, 1) := by decide +kernel
theorem dX12_undo_52 : decode cX12_undo 52 = .ok (.iastore, 1) := by decide +kernel
theorem dX12_undo_53 : decode cX12_undo 53 = .ok (.iinc 1 1, 3) := by decide +kernel
theorem dX12_undo_56 : decode cX12_undo 56 = .ok (.goto (-34), 3) := by decide +kernel
theorem dX12_undo_59 : decode cX12_undo 59 = .ok (.aload_n 0, 1) := by decide +kernel
theorem dX12_undo_60 : decode cX12_undo 60 = .ok (.aload_n 0, 1) := by decide +kernel
theorem dX12_undo_61 : decode cX12_undo 61 = .ok (.getfield 7, 3) := by decide +kernel
theorem dX12_undo_64 : decode cX12_undo 64 = .ok (.bipush 16, 2) := by decide +kernel
theorem dX12_undo_66 : decode cX12_undo 66 = .ok (.iaload, 1) := by decide +kernel
theorem dX12_undo_67 : decode cX12_undo 67 = .ok (.invokevirtual 159, 3) := by decide +kernel
theorem dX12_undo_70 : decode cX12_undo 70 = .ok (.ifCond .ne 11, 3) := by decide +kernel
theorem dX12_undo_73 : decode cX12_undo 73 = .ok (.aload_n 0, 1) := by decide +kernel
theorem dX12_undo_74 : decode cX12_undo 74 = .ok (.getfield 7, 3) := by decide +kernel
theorem dX12_undo_77 : decode cX12_undo 77 = .ok (.bipush 16, 2) := by decide +kernel
theorem dX12_undo_79 : decode cX12_undo 79 = .ok (.iconst (-1), 1) := by decide +kernel
theorem dX12_undo_80 : decode cX12_undo 80 = .ok (.iastore, 1) := by decide +kernel
theorem dX12_undo_81 : decode cX12_undo 81 = .ok (.iconst 1, 1) := by decide +kernel
theorem dX12_undo_82 : decode cX12_undo 82 = .ok (.ireturn, 1) := by decide +kernel
theorem dX12_check_0 : decode cX12_check 0 = .ok (.iload_n 1, 1) := by decide +kernel
theorem dX12_check_1 : decode cX12_check 1 = .ok (.iconst 0, 1) := by decide +kernel
theorem dX12_check_2 : decode cX12_check 2 = .ok (.bipush 16, 2) := by decide +kernel
theorem dX12_check_4 : decode cX12_check 4 = .ok (.invokestatic 134, 3) := by decide +kernel
theorem dX12_check_7 : decode cX12_check 7 = .ok (.ifCond .eq 11, 3) := by decide +kernel
theorem dX12_check_10 : decode cX12_check 10 = .ok (.iload_n 1, 1) := by decide +kernel
theorem dX12_check_11 : decode cX12_check 11 = .ok (.aload_n 0, 1) := by decide +kernel
theorem dX12_check_12 : decode cX12_check 12 = .ok (.getfield 162, 3) := by decide +kernel
theorem dX12_check_15 : decode cX12_check 15 = .ok (.if_icmp .le 6, 3) := by decide +kernel
theorem dX12_check_18 : decode cX12_check 18 = .ok (.bipush (-2), 2) := by decide +kernel
theorem dX12_check_20 : decode cX12_check 20 = .ok (.ireturn, 1) := by decide +kernel
theorem dX12_check_21 : decode cX12_check 21 = .ok (.aload_n 0, 1) := by decide +kernel
theorem dX12_check_22 : decode cX12_check 22 = .ok (.iconst 0, 1) := by decide +kernel
theorem dX12_check_23 : decode cX12_check 23 = .ok (.putfield 162, 3) := by decide +kernel
theorem dX12_check_26 : decode cX12_check 26 = .ok (.iconst 0, 1) := by decide +kernel
theorem dX12_check_27 : decode cX12_check 27 = .ok (.istore_n 2, 1) := by decide +kernel
theorem dX12_check_28 : decode cX12_check 28 = .ok (.iload_n 2, 1) := by decide +kernel
theorem dX12_check_29 : decode cX12_check 29 = .ok (.iload_n 1, 1) := by decide +kernel
theorem dX12_check_30 : decode cX12_check 30 = .ok (.if_icmp .ge 45, 3) := by decide +kernel
theorem dX12_check_33 : decode cX12_check 33 = .ok (.aload_n 0, 1) := by decide +kernel
theorem dX12_check_34 : decode cX12_check 34 = .ok (.iload_n 2, 1) := by decide +kernel
theorem dX12_check_35 : decode cX12_check 35 = .ok (.invokevirtual 400, 3) := by decide +kernel
theorem dX12_check_38 : decode cX12_check 38 = .ok (.aload_n 0, 1) := by decide +kernel
theorem dX12_check_39 : decode cX12_check 39 = .ok (.iload_n 2, 1) := by decide +kernel
theorem dX12_check_40 : decode cX12_check 40 = .ok (.invokevirtual 159, 3) := by decide +kernel
theorem dX12_check_43 : decode cX12_check 43 = .ok (.ifCond .eq 18, 3) := by decide +kernel
theorem dX12_check_46 : decode cX12_check 46 = .ok (.aload_n 0, 1) := by decide +kernel
theorem dX12_check_47 : decode cX12_check 47 = .ok (.getfield 7, 3) := by decide +kernel
theorem dX12_check_50 : decode cX12_check 50 = .ok (.iconst 0, 1) := by decide +kernel
theorem dX12_check_51 : decode cX12_check 51 = .ok (.iload_n 2, 1) := by decide +kernel
theorem dX12_check_52 : decode cX12_check 52 = .ok (.iadd, 1) := by decide +kernel
theorem dX12_check_53 : decode cX12_check 53 = .ok (.iaload, 1) := by decide +kernel
theorem dX12_check_54 : decode cX12_check 54 = .ok (.sipush 256, 3) := by decide +kernel
theorem dX12_check_57 : decode cX12_check 57 = .ok (.irem, 1) := by decide +kernel
theorem dX12_check_58 : decode cX12_check 58 = .ok (.goto 6, 3) := by decide +kernel
theorem dX12_check_61 : decode cX12_check 61 = .ok (.sipush 255, 3) := by decide +kernel
theorem dX12_check_64 : decode cX12_check 64 = .ok (.if_icmp .eq 5, 3) := by decide +kernel
theorem dX12_check_67 : decode cX12_check 67 = .ok (.iload_n 2, 1) := by decide +kernel
theorem dX12_check_68 : decode cX12_check 68 = .ok (.ireturn, 1) := by decide +kernel
theorem dX12_check_69 : decode cX12_check 69 = .ok (.iinc 2 1, 3) := by decide +kernel
theorem dX12_check_72 : decode cX12_check 72 = .ok (.goto (-44), 3) := by decide +kernel
theorem dX12_check_75 : decode cX12_check 75 = .ok (.iconst (-1), 1) := by decide +kernel
theorem dX12_check_76 : decode cX12_check 76 = .ok (.ireturn, 1) := by decide +kernel
theorem dX12_count_0 : decode cX12_count 0 = .ok (.iload_n 1, 1) := by decide +kernel
theorem dX12_count_1 : decode cX12_count 1 = .ok (.tableswitch 151 0 11 #[63, 71, 76, 81, 92, 100, 108, 113, 118, 126, 131, 142], 63) := by decide +kernel
theorem dX12_count_64 : decode cX12_count 64 = .ok (.aload_n 0, 1) := by decide +kernel
theorem dX12_count_65 : decode cX12_count 65 = .ok (.getfield 7, 3) := by decide +kernel
theorem dX12_count_68 : decode cX12_count 68 = .ok (.bipush 19, 2) := by decide +kernel
theorem dX12_count_70 : decode cX12_count 70 = .ok (.iaload, 1) := by decide +kernel
theorem dX12_count_71 : decode cX12_count 71 = .ok (.ireturn, 1) := by decide +kernel
theorem dX12_count_72 : decode cX12_count 72 = .ok (.aload_n 0, 1) := by decide +kernel
theorem dX12_count_73 : decode cX12_count 73 = .ok (.getfield 138, 3) := by decide +kernel
theorem dX12_count_76 : decode cX12_count 76 = .ok (.ireturn, 1) := by decide +kernel
theorem dX12_count_77 : decode cX12_count 77 = .ok (.aload_n 0, 1) := by decide +kernel
theorem dX12_count_78 : decode cX12_count 78 = .ok (.getfield 142, 3) := by decide +kernel
theorem dX12_count_81 : decode cX12_count 81 = .ok (.ireturn, 1) := by decide +kernel
theorem dX12_count_82 : decode cX12_count 82 = .ok (.aload_n 0, 1) := by decide +kernel
theorem dX12_count_83 : decode cX12_count 83 = .ok (.getfield 7, 3) := by decide +kernel
theorem dX12_count_86 : decode cX12_count 86 = .ok (.bipush 16, 2) := by decide +kernel
theorem dX12_count_88 : decode cX12_count 88 = .ok (.iaload, 1) := by decide +kernel
theorem dX12_count_89 : decode cX12_count 89 = .ok (.invokestatic 356, 3) := by decide +kernel
theorem dX12_count_92 : decode cX12_count 92 = .ok (.ireturn, 1) := by decide +kernel
theorem dX12_count_93 : decode cX12_count 93 = .ok (.aload_n 0, 1) := by decide +kernel
theorem dX12_count_94 : decode cX12_count 94 = .ok (.getfield 7, 3) := by decide +kernel
theorem dX12_count_97 : decode cX12_count 97 = .ok (.bipush 17, 2) := by decide +kernel
theorem dX12_count_99 : decode cX12_count 99 = .ok (.iaload, 1) := by decide +kernel
theorem dX12_count_100 : decode cX12_count 100 = .ok (.ireturn, 1) := by decide +kernel
theorem dX12_count_101 : decode cX12_count 101 = .ok (.aload_n 0, 1) := by decide +kernel
theorem dX12_count_102 : decode cX12_count 102 = .ok (.getfield 7, 3) := by decide +kernel
theorem dX12_count_105 : decode cX12_count 105 = .ok (.bipush 18, 2) := by decide +kernel
theorem dX12_count_107 : decode cX12_count 107 = .ok (.iaload, 1) := by decide +kernel
theorem dX12_count_108 : decode cX12_count 108 = .ok (.ireturn, 1) := by decide +kernel
theorem dX12_count_109 : decode cX12_count 109 = .ok (.aload_n 0, 1) := by decide +kernel
theorem dX12_count_110 : decode cX12_count 110 = .ok (.getfield 262, 3) := by decide +kernel
theorem dX12_count_113 : decode cX12_count 113 = .ok (.ireturn, 1) := by decide +kernel
theorem dX12_count_114 : decode cX12_count 114 = .ok (.aload_n 0, 1) := by decide +kernel
theorem dX12_count_115 : decode cX12_count 115 = .ok (.getfield 162, 3) := by decide +kernel
theorem dX12_count_118 : decode cX12_count 118 = .ok (.ireturn, 1) := by decide +kernel
theorem dX12_count_119 : decode cX12_count 119 = .ok (.aload_n 0, 1) := by decide +kernel
theorem dX12_count_120 : decode cX12_count 120 = .ok (.getfield 7, 3) := by decide +kernel
theorem dX12_count_123 : decode cX12_count 123 = .ok (.bipush 20, 2) := by decide +kernel
theorem dX12_count_125 : decode cX12_count 125 = .ok (.iaload, 1) := by decide +kernel
theorem dX12_count_126 : decode cX12_count 126 = .ok (.ireturn, 1) := by decide +kernel
theorem dX12_count_127 : decode cX12_count 127 = .ok (.aload_n 0, 1) := by decide +kernel
theorem dX12_count_128 : decode cX12_count 128 = .ok (.invokevirtual 359, 3) := by decide +kernel
theorem dX12_count_131 : decode cX12_count 131 = .ok (.ireturn, 1) := by decide +kernel
theorem dX12_count_132 : decode cX12_count 132 = .ok (.aload_n 0, 1) := by decide +kernel
theorem dX12_count_133 : decode cX12_count 133 = .ok (.getfield 7, 3) := by decide +kernel
theorem dX12_count_136 : decode cX12_count 136 = .ok (.bipush 17, 2) := by decide +kernel
theorem dX12_count_138 : decode cX12_count 138 = .ok (.iaload, 1) := by decide +kernel
theorem dX12_count_139 : decode cX12_count 139 = .ok (.invokestatic 320, 3) := by decide +kernel
theorem dX12_count_142 : decode cX12_count 142 = .ok (.ireturn, 1) := by decide +kernel
theorem dX12_count_143 : decode cX12_count 143 = .ok (.bipush 12, 2) := by decide +kernel
theorem dX12_count_145 : decode cX12_count 145 = .ok (.aload_n 0, 1) := by decide +kernel
theorem dX12_count_146 : decode cX12_count 146 = .ok (.iconst (-1), 1) := by decide +kernel
theorem dX12_count_147 : decode cX12_count 147 = .ok (.invokevirtual 368, 3) := by decide +kernel
theorem dX12_count_150 : decode cX12_count 150 = .ok (.isub, 1) := by decide +kernel
theorem dX12_count_151 : decode cX12_count 151 = .ok (.ireturn, 1) := by decide +kernel
theorem dX12_count_152 : decode cX12_count 152 = .ok (.iconst (-1), 1) := by decide +kernel
theorem dX12_count_153 : decode cX12_count 153 = .ok (.ireturn, 1) := by decide +kernel
