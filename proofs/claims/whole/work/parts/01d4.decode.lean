theorem dX11_mayTurn_10 : decode cX11_mayTurn 10 = .ok (.iaload, 1) := by decide +kernel
theorem dX11_mayTurn_11 : decode cX11_mayTurn 11 = .ok (.aload_n 0, 1) := by decide +kernel
theorem dX11_mayTurn_12 : decode cX11_mayTurn 12 = .ok (.getfield 136, 3) := by decide +kernel
theorem dX11_mayTurn_15 : decode cX11_mayTurn 15 = .ok (.if_icmp .lt 36, 3) := by decide +kernel
theorem dX11_mayTurn_18 : decode cX11_mayTurn 18 = .ok (.iload_n 2, 1) := by decide +kernel
theorem dX11_mayTurn_19 : decode cX11_mayTurn 19 = .ok (.aload_n 0, 1) := by decide +kernel
theorem dX11_mayTurn_20 : decode cX11_mayTurn 20 = .ok (.getfield 20, 3) := by decide +kernel
theorem dX11_mayTurn_23 : decode cX11_mayTurn 23 = .ok (.aload_n 0, 1) := by decide +kernel
theorem dX11_mayTurn_24 : decode cX11_mayTurn 24 = .ok (.getfield 57, 3) := by decide +kernel
theorem dX11_mayTurn_27 : decode cX11_mayTurn 27 = .ok (.iload_n 1, 1) := by decide +kernel
theorem dX11_mayTurn_28 : decode cX11_mayTurn 28 = .ok (.iaload, 1) := by decide +kernel
theorem dX11_mayTurn_29 : decode cX11_mayTurn 29 = .ok (.iaload, 1) := by decide +kernel
theorem dX11_mayTurn_30 : decode cX11_mayTurn 30 = .ok (.iconst (-1), 1) := by decide +kernel
theorem dX11_mayTurn_31 : decode cX11_mayTurn 31 = .ok (.ixor, 1) := by decide +kernel
theorem dX11_mayTurn_32 : decode cX11_mayTurn 32 = .ok (.iand, 1) := by decide +kernel
theorem dX11_mayTurn_33 : decode cX11_mayTurn 33 = .ok (.ifCond .ne 18, 3) := by decide +kernel
theorem dX11_mayTurn_36 : decode cX11_mayTurn 36 = .ok (.iload_n 2, 1) := by decide +kernel
theorem dX11_mayTurn_37 : decode cX11_mayTurn 37 = .ok (.aload_n 0, 1) := by decide +kernel
theorem dX11_mayTurn_38 : decode cX11_mayTurn 38 = .ok (.getfield 60, 3) := by decide +kernel
theorem dX11_mayTurn_41 : decode cX11_mayTurn 41 = .ok (.iload_n 1, 1) := by decide +kernel
theorem dX11_mayTurn_42 : decode cX11_mayTurn 42 = .ok (.iaload, 1) := by decide +kernel
theorem dX11_mayTurn_43 : decode cX11_mayTurn 43 = .ok (.iand, 1) := by decide +kernel
theorem dX11_mayTurn_44 : decode cX11_mayTurn 44 = .ok (.ifCond .ne 7, 3) := by decide +kernel
theorem dX11_mayTurn_47 : decode cX11_mayTurn 47 = .ok (.iconst 1, 1) := by decide +kernel
theorem dX11_mayTurn_48 : decode cX11_mayTurn 48 = .ok (.goto 4, 3) := by decide +kernel
theorem dX11_mayTurn_51 : decode cX11_mayTurn 51 = .ok (.iconst 0, 1) := by decide +kernel
theorem dX11_mayTurn_52 : decode cX11_mayTurn 52 = .ok (.ireturn, 1) := by decide +kernel
theorem dX11_measures_0 : decode cX11_measures 0 = .ok (.iconst 0, 1) := by decide +kernel
theorem dX11_measures_1 : decode cX11_measures 1 = .ok (.istore_n 3, 1) := by decide +kernel
theorem dX11_measures_2 : decode cX11_measures 2 = .ok (.iload_n 3, 1) := by decide +kernel
theorem dX11_measures_3 : decode cX11_measures 3 = .ok (.iconst 4, 1) := by decide +kernel
theorem dX11_measures_4 : decode cX11_measures 4 = .ok (.if_icmp .gt 155, 3) := by decide +kernel
theorem dX11_measures_7 : decode cX11_measures 7 = .ok (.iconst 0, 1) := by decide +kernel
theorem dX11_measures_8 : decode cX11_measures 8 = .ok (.istore 4, 2) := by decide +kernel
theorem dX11_measures_10 : decode cX11_measures 10 = .ok (.iload 4, 2) := by decide +kernel
theorem dX11_measures_12 : decode cX11_measures 12 = .ok (.bipush 12, 2) := by decide +kernel
theorem dX11_measures_14 : decode cX11_measures 14 = .ok (.if_icmp .ge 37, 3) := by decide +kernel
theorem dX11_measures_17 : decode cX11_measures 17 = .ok (.aload_n 0, 1) := by decide +kernel
theorem dX11_measures_18 : decode cX11_measures 18 = .ok (.getfield 87, 3) := by decide +kernel
theorem dX11_measures_21 : decode cX11_measures 21 = .ok (.bipush 12, 2) := by decide +kernel
theorem dX11_measures_23 : decode cX11_measures 23 = .ok (.iload_n 3, 1) := by decide +kernel
theorem dX11_measures_24 : decode cX11_measures 24 = .ok (.imul, 1) := by decide +kernel
theorem dX11_measures_25 : decode cX11_measures 25 = .ok (.iload 4, 2) := by decide +kernel
theorem dX11_measures_27 : decode cX11_measures 27 = .ok (.iadd, 1) := by decide +kernel
theorem dX11_measures_28 : decode cX11_measures 28 = .ok (.iload_n 3, 1) := by decide +kernel
theorem dX11_measures_29 : decode cX11_measures 29 = .ok (.ifCond .ne 13, 3) := by decide +kernel
theorem dX11_measures_32 : decode cX11_measures 32 = .ok (.iload 4, 2) := by decide +kernel
theorem dX11_measures_34 : decode cX11_measures 34 = .ok (.iload_n 1, 1) := by decide +kernel
theorem dX11_measures_35 : decode cX11_measures 35 = .ok (.if_icmp .ne 7, 3) := by decide +kernel
theorem dX11_measures_38 : decode cX11_measures 38 = .ok (.iconst 0, 1) := by decide +kernel
theorem dX11_measures_39 : decode cX11_measures 39 = .ok (.goto 5, 3) := by decide +kernel
theorem dX11_measures_42 : decode cX11_measures 42 = .ok (.ldc 173, 2) := by decide +kernel
theorem dX11_measures_44 : decode cX11_measures 44 = .ok (.iastore, 1) := by decide +kernel
theorem dX11_measures_45 : decode cX11_measures 45 = .ok (.iinc 4 1, 3) := by decide +kernel
theorem dX11_measures_48 : decode cX11_measures 48 = .ok (.goto (-38), 3) := by decide +kernel
theorem dX11_measures_51 : decode cX11_measures 51 = .ok (.iconst 0, 1) := by decide +kernel
theorem dX11_measures_52 : decode cX11_measures 52 = .ok (.istore 4, 2) := by decide +kernel
theorem dX11_measures_54 : decode cX11_measures 54 = .ok (.iload 4, 2) := by decide +kernel
theorem dX11_measures_56 : decode cX11_measures 56 = .ok (.aload_n 0, 1) := by decide +kernel
theorem dX11_measures_57 : decode cX11_measures 57 = .ok (.getfield 133, 3) := by decide +kernel
theorem dX11_measures_60 : decode cX11_measures 60 = .ok (.if_icmp .ge 93, 3) := by decide +kernel
theorem dX11_measures_63 : decode cX11_measures 63 = .ok (.iload_n 3, 1) := by decide +kernel
theorem dX11_measures_64 : decode cX11_measures 64 = .ok (.ifCond .le 89, 3) := by decide +kernel
theorem dX11_measures_67 : decode cX11_measures 67 = .ok (.aload_n 0, 1) := by decide +kernel
theorem dX11_measures_68 : decode cX11_measures 68 = .ok (.getfield 87, 3) := by decide +kernel
theorem dX11_measures_71 : decode cX11_measures 71 = .ok (.bipush 12, 2) := by decide +kernel
theorem dX11_measures_73 : decode cX11_measures 73 = .ok (.iload_n 3, 1) := by decide +kernel
theorem dX11_measures_74 : decode cX11_measures 74 = .ok (.iconst 1, 1) := by decide +kernel
theorem dX11_measures_75 : decode cX11_measures 75 = .ok (.isub, 1) := by decide +kernel
theorem dX11_measures_76 : decode cX11_measures 76 = .ok (.imul, 1) := by decide +kernel
theorem dX11_measures_77 : decode cX11_measures 77 = .ok (.aload_n 0, 1) := by decide +kernel
theorem dX11_measures_78 : decode cX11_measures 78 = .ok (.getfield 57, 3) := by decide +kernel
theorem dX11_measures_81 : decode cX11_measures 81 = .ok (.iload 4, 2) := by decide +kernel
theorem dX11_measures_83 : decode cX11_measures 83 = .ok (.iaload, 1) := by decide +kernel
theorem dX11_measures_84 : decode cX11_measures 84 = .ok (.iadd, 1) := by decide +kernel
theorem dX11_measures_85 : decode cX11_measures 85 = .ok (.iaload, 1) := by decide +kernel
theorem dX11_measures_86 : decode cX11_measures 86 = .ok (.aload_n 0, 1) := by decide +kernel
theorem dX11_measures_87 : decode cX11_measures 87 = .ok (.getfield 63, 3) := by decide +kernel
theorem dX11_measures_90 : decode cX11_measures 90 = .ok (.iload 4, 2) := by decide +kernel
theorem dX11_measures_92 : decode cX11_measures 92 = .ok (.iaload, 1) := by decide +kernel
theorem dX11_measures_93 : decode cX11_measures 93 = .ok (.iadd, 1) := by decide +kernel
theorem dX11_measures_94 : decode cX11_measures 94 = .ok (.istore 5, 2) := by decide +kernel
theorem dX11_measures_96 : decode cX11_measures 96 = .ok (.aload_n 0, 1) := by decide +kernel
theorem dX11_measures_97 : decode cX11_measures 97 = .ok (.iload 4, 2) := by decide +kernel
theorem dX11_measures_99 : decode cX11_measures 99 = .ok (.iload_n 2, 1) := by decide +kernel
theorem dX11_measures_100 : decode cX11_measures 100 = .ok (.invokevirtual 174, 3) := by decide +kernel
theorem dX11_measures_103 : decode cX11_measures 103 = .ok (.ifCond .eq 44, 3) := by decide +kernel
theorem dX11_measures_106 : decode cX11_measures 106 = .ok (.iload 5, 2) := by decide +kernel
theorem dX11_measures_108 : decode cX11_measures 108 = .ok (.aload_n 0, 1) := by decide +kernel
theorem dX11_measures_109 : decode cX11_measures 109 = .ok (.getfield 87, 3) := by decide +kernel
theorem dX11_measures_112 : decode cX11_measures 112 = .ok (.bipush 12, 2) := by decide +kernel
theorem dX11_measures_114 : decode cX11_measures 114 = .ok (.iload_n 3, 1) := by decide +kernel
theorem dX11_measures_115 : decode cX11_measures 115 = .ok (.imul, 1) := by decide +kernel
theorem dX11_measures_116 : decode cX11_measures 116 = .ok (.aload_n 0, 1) := by decide +kernel
theorem dX11_measures_117 : decode cX11_measures 117 = .ok (.getfield 54, 3) := by decide +kernel
theorem dX11_measures_120 : decode cX11_measures 120 = .ok (.iload 4, 2) := by decide +kernel
theorem dX11_measures_122 : decode cX11_measures 122 = .ok (.iaload, 1) := by decide +kernel
theorem dX11_measures_123 : decode cX11_measures 123 = .ok (.iadd, 1) := by decide +kernel
theorem dX11_measures_124 : decode cX11_measures 124 = .ok (.iaload, 1) := by decide +kernel
theorem dX11_measures_125 : decode cX11_measures 125 = .ok (.if_icmp .ge 22, 3) := by decide +kernel
theorem dX11_measures_128 : decode cX11_measures 128 = .ok (.aload_n 0, 1) := by decide +kernel
theorem dX11_measures_129 : decode cX11_measures 129 = .ok (.getfield 87, 3) := by decide +kernel
theorem dX11_measures_132 : decode cX11_measures 132 = .ok (.bipush 12, 2) := by decide +kernel
theorem dX11_measures_134 : decode cX11_measures 134 = .ok (.iload_n 3, 1) := by decide +kernel
theorem dX11_measures_135 : decode cX11_measures 135 = .ok (.imul, 1) := by decide +kernel
theorem dX11_measures_136 : decode cX11_measures 136 = .ok (.aload_n 0, 1) := by decide +kernel
theorem dX11_measures_137 : decode cX11_measures 137 = .ok (.getfield 54, 3) := by decide +kernel
theorem dX11_measures_140 : decode cX11_measures 140 = .ok (.iload 4, 2) := by decide +kernel
theorem dX11_measures_142 : decode cX11_measures 142 = .ok (.iaload, 1) := by decide +kernel
theorem dX11_measures_143 : decode cX11_measures 143 = .ok (.iadd, 1) := by decide +kernel
theorem dX11_measures_144 : decode cX11_measures 144 = .ok (.iload 5, 2) := by decide +kernel
theorem dX11_measures_146 : decode cX11_measures 146 = .ok (.iastore, 1) := by decide +kernel
theorem dX11_measures_147 : decode cX11_measures 147 = .ok (.iinc 4 1, 3) := by decide +kernel
theorem dX11_measures_150 : decode cX11_measures 150 = .ok (.goto (-96), 3) := by decide +kernel
theorem dX11_measures_153 : decode cX11_measures 153 = .ok (.iinc 3 1, 3) := by decide +kernel
theorem dX11_measures_156 : decode cX11_measures 156 = .ok (.goto (-154), 3) := by decide +kernel
theorem dX11_measures_159 : decode cX11_measures 159 = .ok (.return_, 1) := by decide +kernel
theorem dX11_bestRoad_0 : decode cX11_bestRoad 0 = .ok (.aload_n 0, 1) := by decide +kernel
theorem dX11_bestRoad_1 : decode cX11_bestRoad 1 = .ok (.getfield 36, 3) := by decide +kernel
theorem dX11_bestRoad_4 : decode cX11_bestRoad 4 = .ok (.iload_n 1, 1) := by decide +kernel
theorem dX11_bestRoad_5 : decode cX11_bestRoad 5 = .ok (.iaload, 1) := by decide +kernel
theorem dX11_bestRoad_6 : decode cX11_bestRoad 6 = .ok (.aload_n 0, 1) := by decide +kernel
theorem dX11_bestRoad_7 : decode cX11_bestRoad 7 = .ok (.iload_n 1, 1) := by decide +kernel
theorem dX11_bestRoad_8 : decode cX11_bestRoad 8 = .ok (.invokevirtual 177, 3) := by decide +kernel
theorem dX11_bestRoad_11 : decode cX11_bestRoad 11 = .ok (.iand, 1) := by decide +kernel
theorem dX11_bestRoad_12 : decode cX11_bestRoad 12 = .ok (.istore_n 3, 1) := by decide +kernel
theorem dX11_bestRoad_13 : decode cX11_bestRoad 13 = .ok (.aload_n 0, 1) := by decide +kernel
theorem dX11_bestRoad_14 : decode cX11_bestRoad 14 = .ok (.iload_n 1, 1) := by decide +kernel
theorem dX11_bestRoad_15 : decode cX11_bestRoad 15 = .ok (.invokevirtual 156, 3) := by decide +kernel
theorem dX11_bestRoad_18 : decode cX11_bestRoad 18 = .ok (.istore 4, 2) := by decide +kernel
theorem dX11_bestRoad_20 : decode cX11_bestRoad 20 = .ok (.iload 4, 2) := by decide +kernel
theorem dX11_bestRoad_22 : decode cX11_bestRoad 22 = .ok (.iconst (-1), 1) := by decide +kernel
theorem dX11_bestRoad_23 : decode cX11_bestRoad 23 = .ok (.if_icmp .ne 5, 3) := by decide +kernel
theorem dX11_bestRoad_26 : decode cX11_bestRoad 26 = .ok (.iconst (-1), 1) := by decide +kernel
theorem dX11_bestRoad_27 : decode cX11_bestRoad 27 = .ok (.ireturn, 1) := by decide +kernel
theorem dX11_bestRoad_28 : decode cX11_bestRoad 28 = .ok (.aload_n 0, 1) := by decide +kernel
theorem dX11_bestRoad_29 : decode cX11_bestRoad 29 = .ok (.iload_n 2, 1) := by decide +kernel
theorem dX11_bestRoad_30 : decode cX11_bestRoad 30 = .ok (.iload_n 3, 1) := by decide +kernel
theorem dX11_bestRoad_31 : decode cX11_bestRoad 31 = .ok (.invokevirtual 180, 3) := by decide +kernel
theorem dX11_bestRoad_34 : decode cX11_bestRoad 34 = .ok (.iconst 0, 1) := by decide +kernel
theorem dX11_bestRoad_35 : decode cX11_bestRoad 35 = .ok (.istore 5, 2) := by decide +kernel
theorem dX11_bestRoad_37 : decode cX11_bestRoad 37 = .ok (.iconst 1, 1) := by decide +kernel
theorem dX11_bestRoad_38 : decode cX11_bestRoad 38 = .ok (.istore 6, 2) := by decide +kernel
theorem dX11_bestRoad_40 : decode cX11_bestRoad 40 = .ok (.iload 6, 2) := by decide +kernel
theorem dX11_bestRoad_42 : decode cX11_bestRoad 42 = .ok (.iconst 4, 1) := by decide +kernel
theorem dX11_bestRoad_43 : decode cX11_bestRoad 43 = .ok (.if_icmp .gt 42, 3) := by decide +kernel
theorem dX11_bestRoad_46 : decode cX11_bestRoad 46 = .ok (.aload_n 0, 1) := by decide +kernel
theorem dX11_bestRoad_47 : decode cX11_bestRoad 47 = .ok (.getfield 87, 3) := by decide +kernel
theorem dX11_bestRoad_50 : decode cX11_bestRoad 50 = .ok (.bipush 12, 2) := by decide +kernel
theorem dX11_bestRoad_52 : decode cX11_bestRoad 52 = .ok (.iload 6, 2) := by decide +kernel
theorem dX11_bestRoad_54 : decode cX11_bestRoad 54 = .ok (.imul, 1) := by decide +kernel
theorem dX11_bestRoad_55 : decode cX11_bestRoad 55 = .ok (.iload 4, 2) := by decide +kernel
theorem dX11_bestRoad_57 : decode cX11_bestRoad 57 = .ok (.iadd, 1) := by decide +kernel
theorem dX11_bestRoad_58 : decode cX11_bestRoad 58 = .ok (.iaload, 1) := by decide +kernel
theorem dX11_bestRoad_59 : decode cX11_bestRoad 59 = .ok (.aload_n 0, 1) := by decide +kernel
theorem dX11_bestRoad_60 : decode cX11_bestRoad 60 = .ok (.getfield 87, 3) := by decide +kernel
theorem dX11_bestRoad_63 : decode cX11_bestRoad 63 = .ok (.bipush 12, 2) := by decide +kernel
theorem dX11_bestRoad_65 : decode cX11_bestRoad 65 = .ok (.iload 5, 2) := by decide +kernel
theorem dX11_bestRoad_67 : decode cX11_bestRoad 67 = .ok (.imul, 1) := by decide +kernel
theorem dX11_bestRoad_68 : decode cX11_bestRoad 68 = .ok (.iload 4, 2) := by decide +kernel
theorem dX11_bestRoad_70 : decode cX11_bestRoad 70 = .ok (.iadd, 1) := by decide +kernel
theorem dX11_bestRoad_71 : decode cX11_bestRoad 71 = .ok (.iaload, 1) := by decide +kernel
theorem dX11_bestRoad_72 : decode cX11_bestRoad 72 = .ok (.if_icmp .ge 7, 3) := by decide +kernel
theorem dX11_bestRoad_75 : decode cX11_bestRoad 75 = .ok (.iload 6, 2) := by decide +kernel
theorem dX11_bestRoad_77 : decode cX11_bestRoad 77 = .ok (.istore 5, 2) := by decide +kernel
theorem dX11_bestRoad_79 : decode cX11_bestRoad 79 = .ok (.iinc 6 1, 3) := by decide +kernel
theorem dX11_bestRoad_82 : decode cX11_bestRoad 82 = .ok (.goto (-42), 3) := by decide +kernel
theorem dX11_bestRoad_85 : decode cX11_bestRoad 85 = .ok (.aload_n 0, 1) := by decide +kernel
theorem dX11_bestRoad_86 : decode cX11_bestRoad 86 = .ok (.getfield 87, 3) := by decide +kernel
theorem dX11_bestRoad_89 : decode cX11_bestRoad 89 = .ok (.bipush 12, 2) := by decide +kernel
theorem dX11_bestRoad_91 : decode cX11_bestRoad 91 = .ok (.iload 5, 2) := by decide +kernel
theorem dX11_bestRoad_93 : decode cX11_bestRoad 93 = .ok (.imul, 1) := by decide +kernel
theorem dX11_bestRoad_94 : decode cX11_bestRoad 94 = .ok (.iload 4, 2) := by decide +kernel
theorem dX11_bestRoad_96 : decode cX11_bestRoad 96 = .ok (.iadd, 1) := by decide +kernel
theorem dX11_bestRoad_97 : decode cX11_bestRoad 97 = .ok (.iaload, 1) := by decide +kernel
theorem dX11_bestRoad_98 : decode cX11_bestRoad 98 = .ok (.istore 6, 2) := by decide +kernel
theorem dX11_bestRoad_100 : decode cX11_bestRoad 100 = .ok (.iload 6, 2) := by decide +kernel
theorem dX11_bestRoad_102 : decode cX11_bestRoad 102 = .ok (.ldc 173, 2) := by decide +kernel
theorem dX11_bestRoad_104 : decode cX11_bestRoad 104 = .ok (.if_icmp .lt 5, 3) := by decide +kernel
theorem dX11_bestRoad_107 : decode cX11_bestRoad 107 = .ok (.iconst (-1), 1) := by decide +kernel
theorem dX11_bestRoad_108 : decode cX11_bestRoad 108 = .ok (.ireturn, 1) := by decide +kernel
theorem dX11_bestRoad_109 : decode cX11_bestRoad 109 = .ok (.aload_n 0, 1) := by decide +kernel
theorem dX11_bestRoad_110 : decode cX11_bestRoad 110 = .ok (.iload 5, 2) := by decide +kernel
theorem dX11_bestRoad_112 : decode cX11_bestRoad 112 = .ok (.putfield 184, 3) := by decide +kernel
theorem dX11_bestRoad_115 : decode cX11_bestRoad 115 = .ok (.iload 5, 2) := by decide +kernel
theorem dX11_bestRoad_117 : decode cX11_bestRoad 117 = .ok (.istore 7, 2) := by decide +kernel
theorem dX11_bestRoad_119 : decode cX11_bestRoad 119 = .ok (.iload 7, 2) := by decide +kernel
theorem dX11_bestRoad_121 : decode cX11_bestRoad 121 = .ok (.ifCond .le 105, 3) := by decide +kernel
theorem dX11_bestRoad_124 : decode cX11_bestRoad 124 = .ok (.iconst 0, 1) := by decide +kernel
theorem dX11_bestRoad_125 : decode cX11_bestRoad 125 = .ok (.istore 8, 2) := by decide +kernel
theorem dX11_bestRoad_127 : decode cX11_bestRoad 127 = .ok (.aload_n 0, 1) := by decide +kernel
theorem dX11_bestRoad_128 : decode cX11_bestRoad 128 = .ok (.getfield 54, 3) := by decide +kernel
theorem dX11_bestRoad_131 : decode cX11_bestRoad 131 = .ok (.iload 8, 2) := by decide +kernel
theorem dX11_bestRoad_133 : decode cX11_bestRoad 133 = .ok (.iaload, 1) := by decide +kernel
theorem dX11_bestRoad_134 : decode cX11_bestRoad 134 = .ok (.iload 4, 2) := by decide +kernel
theorem dX11_bestRoad_136 : decode cX11_bestRoad 136 = .ok (.if_icmp .ne 57, 3) := by decide +kernel
theorem dX11_bestRoad_139 : decode cX11_bestRoad 139 = .ok (.aload_n 0, 1) := by decide +kernel
theorem dX11_bestRoad_140 : decode cX11_bestRoad 140 = .ok (.iload 8, 2) := by decide +kernel
theorem dX11_bestRoad_142 : decode cX11_bestRoad 142 = .ok (.iload_n 3, 1) := by decide +kernel
theorem dX11_bestRoad_143 : decode cX11_bestRoad 143 = .ok (.invokevirtual 174, 3) := by decide +kernel
theorem dX11_bestRoad_146 : decode cX11_bestRoad 146 = .ok (.ifCond .eq 47, 3) := by decide +kernel
theorem dX11_bestRoad_149 : decode cX11_bestRoad 149 = .ok (.aload_n 0, 1) := by decide +kernel
theorem dX11_bestRoad_150 : decode cX11_bestRoad 150 = .ok (.getfield 87, 3) := by decide +kernel
theorem dX11_bestRoad_153 : decode cX11_bestRoad 153 = .ok (.bipush 12, 2) := by decide +kernel
theorem dX11_bestRoad_155 : decode cX11_bestRoad 155 = .ok (.iload 7, 2) := by decide +kernel
theorem dX11_bestRoad_157 : decode cX11_bestRoad 157 = .ok (.iconst 1, 1) := by decide +kernel
theorem dX11_bestRoad_158 : decode cX11_bestRoad 158 = .ok (.isub, 1) := by decide +kernel
theorem dX11_bestRoad_159 : decode cX11_bestRoad 159 = .ok (.imul, 1) := by decide +kernel
theorem dX11_bestRoad_160 : decode cX11_bestRoad 160 = .ok (.aload_n 0, 1) := by decide +kernel
theorem dX11_bestRoad_161 : decode cX11_bestRoad 161 = .ok (.getfield 57, 3) := by decide +kernel
theorem dX11_bestRoad_164 : decode cX11_bestRoad 164 = .ok (.iload 8, 2) := by decide +kernel
theorem dX11_bestRoad_166 : decode cX11_bestRoad 166 = .ok (.iaload, 1) := by decide +kernel
theorem dX11_bestRoad_167 : decode cX11_bestRoad 167 = .ok (.iadd, 1) := by decide +kernel
theorem dX11_bestRoad_168 : decode cX11_bestRoad 168 = .ok (.iaload, 1) := by decide +kernel
theorem dX11_bestRoad_169 : decode cX11_bestRoad 169 = .ok (.aload_n 0, 1) := by decide +kernel
theorem dX11_bestRoad_170 : decode cX11_bestRoad 170 = .ok (.getfield 63, 3) := by decide +kernel
theorem dX11_bestRoad_173 : decode cX11_bestRoad 173 = .ok (.iload 8, 2) := by decide +kernel
theorem dX11_bestRoad_175 : decode cX11_bestRoad 175 = .ok (.iaload, 1) := by decide +kernel
theorem dX11_bestRoad_176 : decode cX11_bestRoad 176 = .ok (.iadd, 1) := by decide +kernel
theorem dX11_bestRoad_177 : decode cX11_bestRoad 177 = .ok (.aload_n 0, 1) := by decide +kernel
theorem dX11_bestRoad_178 : decode cX11_bestRoad 178 = .ok (.getfield 87, 3) := by decide +kernel
theorem dX11_bestRoad_181 : decode cX11_bestRoad 181 = .ok (.bipush 12, 2) := by decide +kernel
theorem dX11_bestRoad_183 : decode cX11_bestRoad 183 = .ok (.iload 7, 2) := by decide +kernel
theorem dX11_bestRoad_185 : decode cX11_bestRoad 185 = .ok (.imul, 1) := by decide +kernel
theorem dX11_bestRoad_186 : decode cX11_bestRoad 186 = .ok (.iload 4, 2) := by decide +kernel
theorem dX11_bestRoad_188 : decode cX11_bestRoad 188 = .ok (.iadd, 1) := by decide +kernel
theorem dX11_bestRoad_189 : decode cX11_bestRoad 189 = .ok (.iaload, 1) := by decide +kernel
theorem dX11_bestRoad_190 : decode cX11_bestRoad 190 = .ok (.if_icmp .eq 9, 3) := by decide +kernel
theorem dX11_bestRoad_193 : decode cX11_bestRoad 193 = .ok (.iinc 8 1, 3) := by decide +kernel
theorem dX11_bestRoad_196 : decode cX11_bestRoad 196 = .ok (.goto (-69), 3) := by decide +kernel
theorem dX11_bestRoad_199 : decode cX11_bestRoad 199 = .ok (.aload_n 0, 1) := by decide +kernel
theorem dX11_bestRoad_200 : decode cX11_bestRoad 200 = .ok (.getfield 90, 3) := by decide +kernel
theorem dX11_bestRoad_203 : decode cX11_bestRoad 203 = .ok (.iload 5, 2) := by decide +kernel
theorem dX11_bestRoad_205 : decode cX11_bestRoad 205 = .ok (.iload 7, 2) := by decide +kernel
theorem dX11_bestRoad_207 : decode cX11_bestRoad 207 = .ok (.isub, 1) := by decide +kernel
theorem dX11_bestRoad_208 : decode cX11_bestRoad 208 = .ok (.iload 8, 2) := by decide +kernel
theorem dX11_bestRoad_210 : decode cX11_bestRoad 210 = .ok (.iastore, 1) := by decide +kernel
theorem dX11_bestRoad_211 : decode cX11_bestRoad 211 = .ok (.aload_n 0, 1) := by decide +kernel
theorem dX11_bestRoad_212 : decode cX11_bestRoad 212 = .ok (.getfield 57, 3) := by decide +kernel
theorem dX11_bestRoad_215 : decode cX11_bestRoad 215 = .ok (.iload 8, 2) := by decide +kernel
theorem dX11_bestRoad_217 : decode cX11_bestRoad 217 = .ok (.iaload, 1) := by decide +kernel
theorem dX11_bestRoad_218 : decode cX11_bestRoad 218 = .ok (.istore 4, 2) := by decide +kernel
theorem dX11_bestRoad_220 : decode cX11_bestRoad 220 = .ok (.iinc 7 (-1), 3) := by decide +kernel
theorem dX11_bestRoad_223 : decode cX11_bestRoad 223 = .ok (.goto (-104), 3) := by decide +kernel
theorem dX11_bestRoad_226 : decode cX11_bestRoad 226 = .ok (.iload 6, 2) := by decide +kernel
theorem dX11_bestRoad_228 : decode cX11_bestRoad 228 = .ok (.ireturn, 1) := by decide +kernel
theorem dX11_road_0 : decode cX11_road 0 = .ok (.aload_n 0, 1) := by decide +kernel
theorem dX11_road_1 : decode cX11_road 1 = .ok (.iload_n 1, 1) := by decide +kernel
theorem dX11_road_2 : decode cX11_road 2 = .ok (.invokevirtual 120, 3) := by decide +kernel
theorem dX11_road_5 : decode cX11_road 5 = .ok (.ifCond .eq 11, 3) := by decide +kernel
theorem dX11_road_8 : decode cX11_road 8 = .ok (.aload_n 0, 1) := by decide +kernel
theorem dX11_road_9 : decode cX11_road 9 = .ok (.iload_n 2, 1) := by decide +kernel
theorem dX11_road_10 : decode cX11_road 10 = .ok (.invokevirtual 127, 3) := by decide +kernel
theorem dX11_road_13 : decode cX11_road 13 = .ok (.ifCond .ne 5, 3) := by decide +kernel
theorem dX11_road_16 : decode cX11_road 16 = .ok (.iconst (-1), 1) := by decide +kernel
theorem dX11_road_17 : decode cX11_road 17 = .ok (.ireturn, 1) := by decide +kernel
theorem dX11_road_18 : decode cX11_road 18 = .ok (.aload_n 0, 1) := by decide +kernel
theorem dX11_road_19 : decode cX11_road 19 = .ok (.iload_n 1, 1) := by decide +kernel
theorem dX11_road_20 : decode cX11_road 20 = .ok (.iload_n 2, 1) := by decide +kernel
theorem dX11_road_21 : decode cX11_road 21 = .ok (.invokevirtual 187, 3) := by decide +kernel
theorem dX11_road_24 : decode cX11_road 24 = .ok (.istore_n 3, 1) := by decide +kernel
theorem dX11_road_25 : decode cX11_road 25 = .ok (.iload_n 3, 1) := by decide +kernel
theorem dX11_road_26 : decode cX11_road 26 = .ok (.iconst (-1), 1) := by decide +kernel
theorem dX11_road_27 : decode cX11_road 27 = .ok (.if_icmp .ne 5, 3) := by decide +kernel
theorem dX11_road_30 : decode cX11_road 30 = .ok (.iconst (-1), 1) := by decide +kernel
theorem dX11_road_31 : decode cX11_road 31 = .ok (.ireturn, 1) := by decide +kernel
theorem dX11_road_32 : decode cX11_road 32 = .ok (.aload_n 0, 1) := by decide +kernel
theorem dX11_road_33 : decode cX11_road 33 = .ok (.aload_n 0, 1) := by decide +kernel
theorem dX11_road_34 : decode cX11_road 34 = .ok (.getfield 184, 3) := by decide +kernel
theorem dX11_road_37 : decode cX11_road 37 = .ok (.putfield 190, 3) := by decide +kernel
theorem dX11_road_40 : decode cX11_road 40 = .ok (.iconst 0, 1) := by decide +kernel
theorem dX11_road_41 : decode cX11_road 41 = .ok (.istore 4, 2) := by decide +kernel
theorem dX11_road_43 : decode cX11_road 43 = .ok (.iload 4, 2) := by decide +kernel
theorem dX11_road_45 : decode cX11_road 45 = .ok (.aload_n 0, 1) := by decide +kernel
theorem dX11_road_46 : decode cX11_road 46 = .ok (.getfield 184, 3) := by decide +kernel
theorem dX11_road_49 : decode cX11_road 49 = .ok (.if_icmp .ge 23, 3) := by decide +kernel
theorem dX11_road_52 : decode cX11_road 52 = .ok (.aload_n 0, 1) := by decide +kernel
theorem dX11_road_53 : decode cX11_road 53 = .ok (.getfield 93, 3) := by decide +kernel
theorem dX11_road_56 : decode cX11_road 56 = .ok (.iload 4, 2) := by decide +kernel
theorem dX11_road_58 : decode cX11_road 58 = .ok (.aload_n 0, 1) := by decide +kernel
theorem dX11_road_59 : decode cX11_road 59 = .ok (.getfield 90, 3) := by decide +kernel
theorem dX11_road_62 : decode cX11_road 62 = .ok (.iload 4, 2) := by decide +kernel
theorem dX11_road_64 : decode cX11_road 64 = .ok (.iaload, 1) := by decide +kernel
theorem dX11_road_65 : decode cX11_road 65 = .ok (.iastore, 1) := by decide +kernel
theorem dX11_road_66 : decode cX11_road 66 = .ok (.iinc 4 1, 3) := by decide +kernel
theorem dX11_road_69 : decode cX11_road 69 = .ok (.goto (-26), 3) := by decide +kernel
theorem dX11_road_72 : decode cX11_road 72 = .ok (.iload_n 3, 1) := by decide +kernel
theorem dX11_road_73 : decode cX11_road 73 = .ok (.ireturn, 1) := by decide +kernel
theorem dX11_step_0 : decode cX11_step 0 = .ok (.iload_n 1, 1) := by decide +kernel
theorem dX11_step_1 : decode cX11_step 1 = .ok (.iconst 0, 1) := by decide +kernel
theorem dX11_step_2 : decode cX11_step 2 = .ok (.aload_n 0, 1) := by decide +kernel
theorem dX11_step_3 : decode cX11_step 3 = .ok (.getfield 190, 3) := by decide +kernel
theorem dX11_step_6 : decode cX11_step 6 = .ok (.iconst 1, 1) := by decide +kernel
theorem dX11_step_7 : decode cX11_step 7 = .ok (.isub, 1) := by decide +kernel
theorem dX11_step_8 : decode cX11_step 8 = .ok (.invokestatic 110, 3) := by decide +kernel
theorem dX11_step_11 : decode cX11_step 11 = .ok (.ifCond .eq 12, 3) := by decide +kernel
theorem dX11_step_14 : decode cX11_step 14 = .ok (.aload_n 0, 1) := by decide +kernel
theorem dX11_step_15 : decode cX11_step 15 = .ok (.getfield 93, 3) := by decide +kernel
theorem dX11_step_18 : decode cX11_step 18 = .ok (.iload_n 1, 1) := by decide +kernel
theorem dX11_step_19 : decode cX11_step 19 = .ok (.iaload, 1) := by decide +kernel
theorem dX11_step_20 : decode cX11_step 20 = .ok (.goto 4, 3) := by decide +kernel
theorem dX11_step_23 : decode cX11_step 23 = .ok (.iconst (-1), 1) := by decide +kernel
theorem dX11_step_24 : decode cX11_step 24 = .ok (.ireturn, 1) := by decide +kernel
theorem dX11_lives_0 : decode cX11_lives 0 = .ok (.iload_n 2, 1) := by decide +kernel
theorem dX11_lives_1 : decode cX11_lives 1 = .ok (.ifCond .eq 12, 3) := by decide +kernel
theorem dX11_lives_4 : decode cX11_lives 4 = .ok (.aload_n 0, 1) := by decide +kernel
theorem dX11_lives_5 : decode cX11_lives 5 = .ok (.getfield 42, 3) := by decide +kernel
theorem dX11_lives_8 : decode cX11_lives 8 = .ok (.iload_n 1, 1) := by decide +kernel
theorem dX11_lives_9 : decode cX11_lives 9 = .ok (.iaload, 1) := by decide +kernel
theorem dX11_lives_10 : decode cX11_lives 10 = .ok (.goto 9, 3) := by decide +kernel
theorem dX11_lives_13 : decode cX11_lives 13 = .ok (.aload_n 0, 1) := by decide +kernel
theorem dX11_lives_14 : decode cX11_lives 14 = .ok (.getfield 45, 3) := by decide +kernel
theorem dX11_lives_17 : decode cX11_lives 17 = .ok (.iload_n 1, 1) := by decide +kernel
theorem dX11_lives_18 : decode cX11_lives 18 = .ok (.iaload, 1) := by decide +kernel
theorem dX11_lives_19 : decode cX11_lives 19 = .ok (.ireturn, 1) := by decide +kernel
theorem dX11_lastOf_0 : decode cX11_lastOf 0 = .ok (.aload_n 0, 1) := by decide +kernel
theorem dX11_lastOf_1 : decode cX11_lastOf 1 = .ok (.iload_n 1, 1) := by decide +kernel
theorem dX11_lastOf_2 : decode cX11_lastOf 2 = .ok (.invokevirtual 156, 3) := by decide +kernel
theorem dX11_lastOf_5 : decode cX11_lastOf 5 = .ok (.istore_n 3, 1) := by decide +kernel
theorem dX11_lastOf_6 : decode cX11_lastOf 6 = .ok (.iload_n 3, 1) := by decide +kernel
theorem dX11_lastOf_7 : decode cX11_lastOf 7 = .ok (.iconst (-1), 1) := by decide +kernel
theorem dX11_lastOf_8 : decode cX11_lastOf 8 = .ok (.if_icmp .ne 5, 3) := by decide +kernel
theorem dX11_lastOf_11 : decode cX11_lastOf 11 = .ok (.iconst (-1), 1) := by decide +kernel
theorem dX11_lastOf_12 : decode cX11_lastOf 12 = .ok (.ireturn, 1) := by decide +kernel
theorem dX11_lastOf_13 : decode cX11_lastOf 13 = .ok (.iconst (-1), 1) := by decide +kernel
theorem dX11_lastOf_14 : decode cX11_lastOf 14 = .ok (.istore 4, 2) := by decide +kernel
theorem dX11_lastOf_16 : decode cX11_lastOf 16 = .ok (.iconst 0, 1) := by decide +kernel
theorem dX11_lastOf_17 : decode cX11_lastOf 17 = .ok (.istore 5, 2) := by decide +kernel
theorem dX11_lastOf_19 : decode cX11_lastOf 19 = .ok (.iload 5, 2) := by decide +kernel
theorem dX11_lastOf_21 : decode cX11_lastOf 21 = .ok (.iconst 4, 1) := by decide +kernel
theorem dX11_lastOf_22 : decode cX11_lastOf 22 = .ok (.if_icmp .gt 273, 3) := by decide +kernel
theorem dX11_lastOf_25 : decode cX11_lastOf 25 = .ok (.iconst 0, 1) := by decide +kernel
theorem dX11_lastOf_26 : decode cX11_lastOf 26 = .ok (.istore 6, 2) := by decide +kernel
theorem dX11_lastOf_28 : decode cX11_lastOf 28 = .ok (.iload 6, 2) := by decide +kernel
theorem dX11_lastOf_30 : decode cX11_lastOf 30 = .ok (.bipush 12, 2) := by decide +kernel
theorem dX11_lastOf_32 : decode cX11_lastOf 32 = .ok (.if_icmp .ge 23, 3) := by decide +kernel
theorem dX11_lastOf_35 : decode cX11_lastOf 35 = .ok (.aload_n 0, 1) := by decide +kernel
theorem dX11_lastOf_36 : decode cX11_lastOf 36 = .ok (.getfield 96, 3) := by decide +kernel
theorem dX11_lastOf_39 : decode cX11_lastOf 39 = .ok (.bipush 12, 2) := by decide +kernel
theorem dX11_lastOf_41 : decode cX11_lastOf 41 = .ok (.iload 5, 2) := by decide +kernel
theorem dX11_lastOf_43 : decode cX11_lastOf 43 = .ok (.imul, 1) := by decide +kernel
theorem dX11_lastOf_44 : decode cX11_lastOf 44 = .ok (.iload 6, 2) := by decide +kernel
theorem dX11_lastOf_46 : decode cX11_lastOf 46 = .ok (.iadd, 1) := by decide +kernel
theorem dX11_lastOf_47 : decode cX11_lastOf 47 = .ok (.iconst (-1), 1) := by decide +kernel
theorem dX11_lastOf_48 : decode cX11_lastOf 48 = .ok (.iastore, 1) := by decide +kernel
theorem dX11_lastOf_49 : decode cX11_lastOf 49 = .ok (.iinc 6 1, 3) := by decide +kernel
theorem dX11_lastOf_52 : decode cX11_lastOf 52 = .ok (.goto (-24), 3) := by decide +kernel
theorem dX11_lastOf_55 : decode cX11_lastOf 55 = .ok (.iconst 0, 1) := by decide +kernel
theorem dX11_lastOf_56 : decode cX11_lastOf 56 = .ok (.istore 6, 2) := by decide +kernel
theorem dX11_lastOf_58 : decode cX11_lastOf 58 = .ok (.iload 6, 2) := by decide +kernel
theorem dX11_lastOf_60 : decode cX11_lastOf 60 = .ok (.aload_n 0, 1) := by decide +kernel
theorem dX11_lastOf_61 : decode cX11_lastOf 61 = .ok (.getfield 130, 3) := by decide +kernel
theorem dX11_lastOf_64 : decode cX11_lastOf 64 = .ok (.if_icmp .ge 65, 3) := by decide +kernel
theorem dX11_lastOf_67 : decode cX11_lastOf 67 = .ok (.iload 5, 2) := by decide +kernel
theorem dX11_lastOf_69 : decode cX11_lastOf 69 = .ok (.ifCond .ne 60, 3) := by decide +kernel
theorem dX11_lastOf_72 : decode cX11_lastOf 72 = .ok (.aload_n 0, 1) := by decide +kernel
theorem dX11_lastOf_73 : decode cX11_lastOf 73 = .ok (.aload_n 0, 1) := by decide +kernel
theorem dX11_lastOf_74 : decode cX11_lastOf 74 = .ok (.getfield 51, 3) := by decide +kernel
theorem dX11_lastOf_77 : decode cX11_lastOf 77 = .ok (.iload 6, 2) := by decide +kernel
theorem dX11_lastOf_79 : decode cX11_lastOf 79 = .ok (.iaload, 1) := by decide +kernel
theorem dX11_lastOf_80 : decode cX11_lastOf 80 = .ok (.iload_n 2, 1) := by decide +kernel
theorem dX11_lastOf_81 : decode cX11_lastOf 81 = .ok (.invokevirtual 193, 3) := by decide +kernel
theorem dX11_lastOf_84 : decode cX11_lastOf 84 = .ok (.aload_n 0, 1) := by decide +kernel
theorem dX11_lastOf_85 : decode cX11_lastOf 85 = .ok (.getfield 96, 3) := by decide +kernel
theorem dX11_lastOf_88 : decode cX11_lastOf 88 = .ok (.aload_n 0, 1) := by decide +kernel
theorem dX11_lastOf_89 : decode cX11_lastOf 89 = .ok (.getfield 48, 3) := by decide +kernel
theorem dX11_lastOf_92 : decode cX11_lastOf 92 = .ok (.iload 6, 2) := by decide +kernel
theorem dX11_lastOf_94 : decode cX11_lastOf 94 = .ok (.iaload, 1) := by decide +kernel
theorem dX11_lastOf_95 : decode cX11_lastOf 95 = .ok (.iaload, 1) := by decide +kernel
theorem dX11_lastOf_96 : decode cX11_lastOf 96 = .ok (.if_icmp .le 27, 3) := by decide +kernel
theorem dX11_lastOf_99 : decode cX11_lastOf 99 = .ok (.aload_n 0, 1) := by decide +kernel
theorem dX11_lastOf_100 : decode cX11_lastOf 100 = .ok (.getfield 96, 3) := by decide +kernel
theorem dX11_lastOf_103 : decode cX11_lastOf 103 = .ok (.aload_n 0, 1) := by decide +kernel
theorem dX11_lastOf_104 : decode cX11_lastOf 104 = .ok (.getfield 48, 3) := by decide +kernel
theorem dX11_lastOf_107 : decode cX11_lastOf 107 = .ok (.iload 6, 2) := by decide +kernel
theorem dX11_lastOf_109 : decode cX11_lastOf 109 = .ok (.iaload, 1) := by decide +kernel
theorem dX11_lastOf_110 : decode cX11_lastOf 110 = .ok (.aload_n 0, 1) := by decide +kernel
theorem dX11_lastOf_111 : decode cX11_lastOf 111 = .ok (.aload_n 0, 1) := by decide +kernel
theorem dX11_lastOf_112 : decode cX11_lastOf 112 = .ok (.getfield 51, 3) := by decide +kernel
theorem dX11_lastOf_115 : decode cX11_lastOf 115 = .ok (.iload 6, 2) := by decide +kernel
theorem dX11_lastOf_117 : decode cX11_lastOf 117 = .ok (.iaload, 1) := by decide +kernel
theorem dX11_lastOf_118 : decode cX11_lastOf 118 = .ok (.iload_n 2, 1) := by decide +kernel
theorem dX11_lastOf_119 : decode cX11_lastOf 119 = .ok (.invokevirtual 193, 3) := by decide +kernel
theorem dX11_lastOf_122 : decode cX11_lastOf 122 = .ok (.iastore, 1) := by decide +kernel
theorem dX11_lastOf_123 : decode cX11_lastOf 123 = .ok (.iinc 6 1, 3) := by decide +kernel
theorem dX11_lastOf_126 : decode cX11_lastOf 126 = .ok (.goto (-68), 3) := by decide +kernel
theorem dX11_lastOf_129 : decode cX11_lastOf 129 = .ok (.iconst 0, 1) := by decide +kernel
theorem dX11_lastOf_130 : decode cX11_lastOf 130 = .ok (.istore 6, 2) := by decide +kernel
theorem dX11_lastOf_132 : decode cX11_lastOf 132 = .ok (.iload 6, 2) := by decide +kernel
theorem dX11_lastOf_134 : decode cX11_lastOf 134 = .ok (.aload_n 0, 1) := by decide +kernel
theorem dX11_lastOf_135 : decode cX11_lastOf 135 = .ok (.getfield 133, 3) := by decide +kernel
theorem dX11_lastOf_138 : decode cX11_lastOf 138 = .ok (.if_icmp .ge 115, 3) := by decide +kernel
theorem dX11_lastOf_141 : decode cX11_lastOf 141 = .ok (.iload 5, 2) := by decide +kernel
theorem dX11_lastOf_143 : decode cX11_lastOf 143 = .ok (.ifCond .le 110, 3) := by decide +kernel
theorem dX11_lastOf_146 : decode cX11_lastOf 146 = .ok (.aload_n 0, 1) := by decide +kernel
theorem dX11_lastOf_147 : decode cX11_lastOf 147 = .ok (.getfield 96, 3) := by decide +kernel
theorem dX11_lastOf_150 : decode cX11_lastOf 150 = .ok (.bipush 12, 2) := by decide +kernel
theorem dX11_lastOf_152 : decode cX11_lastOf 152 = .ok (.iload 5, 2) := by decide +kernel
theorem dX11_lastOf_154 : decode cX11_lastOf 154 = .ok (.iconst 1, 1) := by decide +kernel
theorem dX11_lastOf_155 : decode cX11_lastOf 155 = .ok (.isub, 1) := by decide +kernel
theorem dX11_lastOf_156 : decode cX11_lastOf 156 = .ok (.imul, 1) := by decide +kernel
theorem dX11_lastOf_157 : decode cX11_lastOf 157 = .ok (.aload_n 0, 1) := by decide +kernel
theorem dX11_lastOf_158 : decode cX11_lastOf 158 = .ok (.getfield 57, 3) := by decide +kernel
theorem dX11_lastOf_161 : decode cX11_lastOf 161 = .ok (.iload 6, 2) := by decide +kernel
theorem dX11_lastOf_163 : decode cX11_lastOf 163 = .ok (.iaload, 1) := by decide +kernel
theorem dX11_lastOf_164 : decode cX11_lastOf 164 = .ok (.iadd, 1) := by decide +kernel
theorem dX11_lastOf_165 : decode cX11_lastOf 165 = .ok (.iaload, 1) := by decide +kernel
theorem dX11_lastOf_166 : decode cX11_lastOf 166 = .ok (.istore 7, 2) := by decide +kernel
theorem dX11_lastOf_168 : decode cX11_lastOf 168 = .ok (.aload_n 0, 1) := by decide +kernel
theorem dX11_lastOf_169 : decode cX11_lastOf 169 = .ok (.aload_n 0, 1) := by decide +kernel
theorem dX11_lastOf_170 : decode cX11_lastOf 170 = .ok (.getfield 66, 3) := by decide +kernel
theorem dX11_lastOf_173 : decode cX11_lastOf 173 = .ok (.iload 6, 2) := by decide +kernel
theorem dX11_lastOf_175 : decode cX11_lastOf 175 = .ok (.iaload, 1) := by decide +kernel
theorem dX11_lastOf_176 : decode cX11_lastOf 176 = .ok (.iload_n 2, 1) := by decide +kernel
theorem dX11_lastOf_177 : decode cX11_lastOf 177 = .ok (.invokevirtual 193, 3) := by decide +kernel
theorem dX11_lastOf_180 : decode cX11_lastOf 180 = .ok (.iload 7, 2) := by decide +kernel
theorem dX11_lastOf_182 : decode cX11_lastOf 182 = .ok (.if_icmp .ge 18, 3) := by decide +kernel
theorem dX11_lastOf_185 : decode cX11_lastOf 185 = .ok (.aload_n 0, 1) := by decide +kernel
theorem dX11_lastOf_186 : decode cX11_lastOf 186 = .ok (.aload_n 0, 1) := by decide +kernel
theorem dX11_lastOf_187 : decode cX11_lastOf 187 = .ok (.getfield 66, 3) := by decide +kernel
theorem dX11_lastOf_190 : decode cX11_lastOf 190 = .ok (.iload 6, 2) := by decide +kernel
theorem dX11_lastOf_192 : decode cX11_lastOf 192 = .ok (.iaload, 1) := by decide +kernel
theorem dX11_lastOf_193 : decode cX11_lastOf 193 = .ok (.iload_n 2, 1) := by decide +kernel
theorem dX11_lastOf_194 : decode cX11_lastOf 194 = .ok (.invokevirtual 193, 3) := by decide +kernel
theorem dX11_lastOf_197 : decode cX11_lastOf 197 = .ok (.goto 5, 3) := by decide +kernel
theorem dX11_lastOf_200 : decode cX11_lastOf 200 = .ok (.iload 7, 2) := by decide +kernel
theorem dX11_lastOf_202 : decode cX11_lastOf 202 = .ok (.istore 7, 2) := by decide +kernel
theorem dX11_lastOf_204 : decode cX11_lastOf 204 = .ok (.iload 7, 2) := by decide +kernel
theorem dX11_lastOf_206 : decode cX11_lastOf 206 = .ok (.aload_n 0, 1) := by decide +kernel
theorem dX11_lastOf_207 : decode cX11_lastOf 207 = .ok (.getfield 96, 3) := by decide +kernel
theorem dX11_lastOf_210 : decode cX11_lastOf 210 = .ok (.bipush 12, 2) := by decide +kernel
theorem dX11_lastOf_212 : decode cX11_lastOf 212 = .ok (.iload 5, 2) := by decide +kernel
theorem dX11_lastOf_214 : decode cX11_lastOf 214 = .ok (.imul, 1) := by decide +kernel
theorem dX11_lastOf_215 : decode cX11_lastOf 215 = .ok (.aload_n 0, 1) := by decide +kernel
theorem dX11_lastOf_216 : decode cX11_lastOf 216 = .ok (.getfield 54, 3) := by decide +kernel
theorem dX11_lastOf_219 : decode cX11_lastOf 219 = .ok (.iload 6, 2) := by decide +kernel
theorem dX11_lastOf_221 : decode cX11_lastOf 221 = .ok (.iaload, 1) := by decide +kernel
theorem dX11_lastOf_222 : decode cX11_lastOf 222 = .ok (.iadd, 1) := by decide +kernel
theorem dX11_lastOf_223 : decode cX11_lastOf 223 = .ok (.iaload, 1) := by decide +kernel
theorem dX11_lastOf_224 : decode cX11_lastOf 224 = .ok (.if_icmp .le 23, 3) := by decide +kernel
theorem dX11_lastOf_227 : decode cX11_lastOf 227 = .ok (.aload_n 0, 1) := by decide +kernel
theorem dX11_lastOf_228 : decode cX11_lastOf 228 = .ok (.getfield 96, 3) := by decide +kernel
theorem dX11_lastOf_231 : decode cX11_lastOf 231 = .ok (.bipush 12, 2) := by decide +kernel
theorem dX11_lastOf_233 : decode cX11_lastOf 233 = .ok (.iload 5, 2) := by decide +kernel
theorem dX11_lastOf_235 : decode cX11_lastOf 235 = .ok (.imul, 1) := by decide +kernel
theorem dX11_lastOf_236 : decode cX11_lastOf 236 = .ok (.aload_n 0, 1) := by decide +kernel
theorem dX11_lastOf_237 : decode cX11_lastOf 237 = .ok (.getfield 54, 3) := by decide +kernel
theorem dX11_lastOf_240 : decode cX11_lastOf 240 = .ok (.iload 6, 2) := by decide +kernel
theorem dX11_lastOf_242 : decode cX11_lastOf 242 = .ok (.iaload, 1) := by decide +kernel
theorem dX11_lastOf_243 : decode cX11_lastOf 243 = .ok (.iadd, 1) := by decide +kernel
theorem dX11_lastOf_244 : decode cX11_lastOf 244 = .ok (.iload 7, 2) := by decide +kernel
theorem dX11_lastOf_246 : decode cX11_lastOf 246 = .ok (.iastore, 1) := by decide +kernel
theorem dX11_lastOf_247 : decode cX11_lastOf 247 = .ok (.iinc 6 1, 3) := by decide +kernel
theorem dX11_lastOf_250 : decode cX11_lastOf 250 = .ok (.goto (-118), 3) := by decide +kernel
theorem dX11_lastOf_253 : decode cX11_lastOf 253 = .ok (.aload_n 0, 1) := by decide +kernel
theorem dX11_lastOf_254 : decode cX11_lastOf 254 = .ok (.getfield 96, 3) := by decide +kernel
theorem dX11_lastOf_257 : decode cX11_lastOf 257 = .ok (.bipush 12, 2) := by decide +kernel
theorem dX11_lastOf_259 : decode cX11_lastOf 259 = .ok (.iload 5, 2) := by decide +kernel
theorem dX11_lastOf_261 : decode cX11_lastOf 261 = .ok (.imul, 1) := by decide +kernel
theorem dX11_lastOf_262 : decode cX11_lastOf 262 = .ok (.iload_n 3, 1) := by decide +kernel
theorem dX11_lastOf_263 : decode cX11_lastOf 263 = .ok (.iadd, 1) := by decide +kernel
theorem dX11_lastOf_264 : decode cX11_lastOf 264 = .ok (.iaload, 1) := by decide +kernel
theorem dX11_lastOf_265 : decode cX11_lastOf 265 = .ok (.iload 4, 2) := by decide +kernel
theorem dX11_lastOf_267 : decode cX11_lastOf 267 = .ok (.if_icmp .le 18, 3) := by decide +kernel
theorem dX11_lastOf_270 : decode cX11_lastOf 270 = .ok (.aload_n 0, 1) := by decide +kernel
theorem dX11_lastOf_271 : decode cX11_lastOf 271 = .ok (.getfield 96, 3) := by decide +kernel
theorem dX11_lastOf_274 : decode cX11_lastOf 274 = .ok (.bipush 12, 2) := by decide +kernel
theorem dX11_lastOf_276 : decode cX11_lastOf 276 = .ok (.iload 5, 2) := by decide +kernel
theorem dX11_lastOf_278 : decode cX11_lastOf 278 = .ok (.imul, 1) := by decide +kernel
theorem dX11_lastOf_279 : decode cX11_lastOf 279 = .ok (.iload_n 3, 1) := by decide +kernel
theorem dX11_lastOf_280 : decode cX11_lastOf 280 = .ok (.iadd, 1) := by decide +kernel
theorem dX11_lastOf_281 : decode cX11_lastOf 281 = .ok (.iaload, 1) := by decide +kernel
theorem dX11_lastOf_282 : decode cX11_lastOf 282 = .ok (.goto 5, 3) := by decide +kernel
theorem dX11_lastOf_285 : decode cX11_lastOf 285 = .ok (.iload 4, 2) := by decide +kernel
theorem dX11_lastOf_287 : decode cX11_lastOf 287 = .ok (.istore 4, 2) := by decide +kernel
theorem dX11_lastOf_289 : decode cX11_lastOf 289 = .ok (.iinc 5 1, 3) := by decide +kernel
theorem dX11_lastOf_292 : decode cX11_lastOf 292 = .ok (.goto (-273), 3) := by decide +kernel
theorem dX11_lastOf_295 : decode cX11_lastOf 295 = .ok (.iload 4, 2) := by decide +kernel
theorem dX11_lastOf_297 : decode cX11_lastOf 297 = .ok (.ireturn, 1) := by decide +kernel
theorem dX11_last_0 : decode cX11_last 0 = .ok (.aload_n 0, 1) := by decide +kernel
theorem dX11_last_1 : decode cX11_last 1 = .ok (.iload_n 1, 1) := by decide +kernel
theorem dX11_last_2 : decode cX11_last 2 = .ok (.invokevirtual 120, 3) := by decide +kernel
theorem dX11_last_5 : decode cX11_last 5 = .ok (.ifCond .eq 12, 3) := by decide +kernel
theorem dX11_last_8 : decode cX11_last 8 = .ok (.aload_n 0, 1) := by decide +kernel
theorem dX11_last_9 : decode cX11_last 9 = .ok (.iload_n 1, 1) := by decide +kernel
theorem dX11_last_10 : decode cX11_last 10 = .ok (.iload_n 2, 1) := by decide +kernel
theorem dX11_last_11 : decode cX11_last 11 = .ok (.invokevirtual 197, 3) := by decide +kernel
theorem dX11_last_14 : decode cX11_last 14 = .ok (.goto 4, 3) := by decide +kernel
theorem dX11_last_17 : decode cX11_last 17 = .ok (.iconst (-1), 1) := by decide +kernel
theorem dX11_last_18 : decode cX11_last 18 = .ok (.ireturn, 1) := by decide +kernel
theorem dX11_isRead_0 : decode cX11_isRead 0 = .ok (.iconst 0, 1) := by decide +kernel
theorem dX11_isRead_1 : decode cX11_isRead 1 = .ok (.istore_n 3, 1) := by decide +kernel
theorem dX11_isRead_2 : decode cX11_isRead 2 = .ok (.iload_n 3, 1) := by decide +kernel
theorem dX11_isRead_3 : decode cX11_isRead 3 = .ok (.aload_n 0, 1) := by decide +kernel
theorem dX11_isRead_4 : decode cX11_isRead 4 = .ok (.getfield 130, 3) := by decide +kernel
theorem dX11_isRead_7 : decode cX11_isRead 7 = .ok (.if_icmp .ge 36, 3) := by decide +kernel
theorem dX11_isRead_10 : decode cX11_isRead 10 = .ok (.aload_n 0, 1) := by decide +kernel
theorem dX11_isRead_11 : decode cX11_isRead 11 = .ok (.getfield 48, 3) := by decide +kernel
theorem dX11_isRead_14 : decode cX11_isRead 14 = .ok (.iload_n 3, 1) := by decide +kernel
theorem dX11_isRead_15 : decode cX11_isRead 15 = .ok (.iaload, 1) := by decide +kernel
theorem dX11_isRead_16 : decode cX11_isRead 16 = .ok (.iload_n 1, 1) := by decide +kernel
theorem dX11_isRead_17 : decode cX11_isRead 17 = .ok (.if_icmp .ne 20, 3) := by decide +kernel
theorem dX11_isRead_20 : decode cX11_isRead 20 = .ok (.aload_n 0, 1) := by decide +kernel
theorem dX11_isRead_21 : decode cX11_isRead 21 = .ok (.getfield 42, 3) := by decide +kernel
theorem dX11_isRead_24 : decode cX11_isRead 24 = .ok (.aload_n 0, 1) := by decide +kernel
theorem dX11_isRead_25 : decode cX11_isRead 25 = .ok (.getfield 51, 3) := by decide +kernel
theorem dX11_isRead_28 : decode cX11_isRead 28 = .ok (.iload_n 3, 1) := by decide +kernel
theorem dX11_isRead_29 : decode cX11_isRead 29 = .ok (.iaload, 1) := by decide +kernel
theorem dX11_isRead_30 : decode cX11_isRead 30 = .ok (.iaload, 1) := by decide +kernel
theorem dX11_isRead_31 : decode cX11_isRead 31 = .ok (.iload_n 2, 1) := by decide +kernel
theorem dX11_isRead_32 : decode cX11_isRead 32 = .ok (.if_icmp .lt 5, 3) := by decide +kernel
theorem dX11_isRead_35 : decode cX11_isRead 35 = .ok (.iconst 1, 1) := by decide +kernel
theorem dX11_isRead_36 : decode cX11_isRead 36 = .ok (.ireturn, 1) := by decide +kernel
theorem dX11_isRead_37 : decode cX11_isRead 37 = .ok (.iinc 3 1, 3) := by decide +kernel
theorem dX11_isRead_40 : decode cX11_isRead 40 = .ok (.goto (-38), 3) := by decide +kernel
theorem dX11_isRead_43 : decode cX11_isRead 43 = .ok (.iconst 0, 1) := by decide +kernel
theorem dX11_isRead_44 : decode cX11_isRead 44 = .ok (.ireturn, 1) := by decide +kernel
theorem dX11_isPlanned_0 : decode cX11_isPlanned 0 = .ok (.iconst 0, 1) := by decide +kernel
theorem dX11_isPlanned_1 : decode cX11_isPlanned 1 = .ok (.istore_n 2, 1) := by decide +kernel
theorem dX11_isPlanned_2 : decode cX11_isPlanned 2 = .ok (.iload_n 2, 1) := by decide +kernel
theorem dX11_isPlanned_3 : decode cX11_isPlanned 3 = .ok (.aload_n 0, 1) := by decide +kernel
theorem dX11_isPlanned_4 : decode cX11_isPlanned 4 = .ok (.getfield 117, 3) := by decide +kernel
theorem dX11_isPlanned_7 : decode cX11_isPlanned 7 = .ok (.if_icmp .ge 21, 3) := by decide +kernel
theorem dX11_isPlanned_10 : decode cX11_isPlanned 10 = .ok (.aload_n 0, 1) := by decide +kernel
theorem dX11_isPlanned_11 : decode cX11_isPlanned 11 = .ok (.getfield 39, 3) := by decide +kernel
theorem dX11_isPlanned_14 : decode cX11_isPlanned 14 = .ok (.iload_n 2, 1) := by decide +kernel
theorem dX11_isPlanned_15 : decode cX11_isPlanned 15 = .ok (.iaload, 1) := by decide +kernel
theorem dX11_isPlanned_16 : decode cX11_isPlanned 16 = .ok (.iload_n 1, 1) := by decide +kernel
theorem dX11_isPlanned_17 : decode cX11_isPlanned 17 = .ok (.if_icmp .ne 5, 3) := by decide +kernel
theorem dX11_isPlanned_20 : decode cX11_isPlanned 20 = .ok (.iconst 0, 1) := by decide +kernel
theorem dX11_isPlanned_21 : decode cX11_isPlanned 21 = .ok (.ireturn, 1) := by decide +kernel
theorem dX11_isPlanned_22 : decode cX11_isPlanned 22 = .ok (.iinc 2 1, 3) := by decide +kernel
theorem dX11_isPlanned_25 : decode cX11_isPlanned 25 = .ok (.goto (-23), 3) := by decide +kernel
theorem dX11_isPlanned_28 : decode cX11_isPlanned 28 = .ok (.aload_n 0, 1) := by decide +kernel
theorem dX11_isPlanned_29 : decode cX11_isPlanned 29 = .ok (.iload_n 1, 1) := by decide +kernel
theorem dX11_isPlanned_30 : decode cX11_isPlanned 30 = .ok (.invokevirtual 156, 3) := by decide +kernel
theorem dX11_isPlanned_33 : decode cX11_isPlanned 33 = .ok (.iconst (-1), 1) := by decide +kernel
theorem dX11_isPlanned_34 : decode cX11_isPlanned 34 = .ok (.if_icmp .eq 7, 3) := by decide +kernel
theorem dX11_isPlanned_37 : decode cX11_isPlanned 37 = .ok (.iconst 1, 1) := by decide +kernel
theorem dX11_isPlanned_38 : decode cX11_isPlanned 38 = .ok (.goto 4, 3) := by decide +kernel
theorem dX11_isPlanned_41 : decode cX11_isPlanned 41 = .ok (.iconst 0, 1) := by decide +kernel
theorem dX11_isPlanned_42 : decode cX11_isPlanned 42 = .ok (.ireturn, 1) := by decide +kernel
theorem dX11_isBetter_0 : decode cX11_isBetter 0 = .ok (.iload_n 1, 1) := by decide +kernel
theorem dX11_isBetter_1 : decode cX11_isBetter 1 = .ok (.aload_n 0, 1) := by decide +kernel
theorem dX11_isBetter_2 : decode cX11_isBetter 2 = .ok (.getfield 200, 3) := by decide +kernel
theorem dX11_isBetter_5 : decode cX11_isBetter 5 = .ok (.if_icmp .eq 17, 3) := by decide +kernel
theorem dX11_isBetter_8 : decode cX11_isBetter 8 = .ok (.iload_n 1, 1) := by decide +kernel
theorem dX11_isBetter_9 : decode cX11_isBetter 9 = .ok (.aload_n 0, 1) := by decide +kernel
theorem dX11_isBetter_10 : decode cX11_isBetter 10 = .ok (.getfield 200, 3) := by decide +kernel
theorem dX11_isBetter_13 : decode cX11_isBetter 13 = .ok (.if_icmp .ge 7, 3) := by decide +kernel
theorem dX11_isBetter_16 : decode cX11_isBetter 16 = .ok (.iconst 1, 1) := by decide +kernel
theorem dX11_isBetter_17 : decode cX11_isBetter 17 = .ok (.goto 4, 3) := by decide +kernel
theorem dX11_isBetter_20 : decode cX11_isBetter 20 = .ok (.iconst 0, 1) := by decide +kernel
theorem dX11_isBetter_21 : decode cX11_isBetter 21 = .ok (.ireturn, 1) := by decide +kernel
theorem dX11_isBetter_22 : decode cX11_isBetter 22 = .ok (.aload_n 0, 1) := by decide +kernel
theorem dX11_isBetter_23 : decode cX11_isBetter 23 = .ok (.getfield 184, 3) := by decide +kernel
theorem dX11_isBetter_26 : decode cX11_isBetter 26 = .ok (.aload_n 0, 1) := by decide +kernel
theorem dX11_isBetter_27 : decode cX11_isBetter 27 = .ok (.getfield 203, 3) := by decide +kernel
theorem dX11_isBetter_30 : decode cX11_isBetter 30 = .ok (.if_icmp .eq 20, 3) := by decide +kernel
theorem dX11_isBetter_33 : decode cX11_isBetter 33 = .ok (.aload_n 0, 1) := by decide +kernel
theorem dX11_isBetter_34 : decode cX11_isBetter 34 = .ok (.getfield 184, 3) := by decide +kernel
theorem dX11_isBetter_37 : decode cX11_isBetter 37 = .ok (.aload_n 0, 1) := by decide +kernel
theorem dX11_isBetter_38 : decode cX11_isBetter 38 = .ok (.getfield 203, 3) := by decide +kernel
theorem dX11_isBetter_41 : decode cX11_isBetter 41 = .ok (.if_icmp .ge 7, 3) := by decide +kernel
theorem dX11_isBetter_44 : decode cX11_isBetter 44 = .ok (.iconst 1, 1) := by decide +kernel
theorem dX11_isBetter_45 : decode cX11_isBetter 45 = .ok (.goto 4, 3) := by decide +kernel
theorem dX11_isBetter_48 : decode cX11_isBetter 48 = .ok (.iconst 0, 1) := by decide +kernel
theorem dX11_isBetter_49 : decode cX11_isBetter 49 = .ok (.ireturn, 1) := by decide +kernel
theorem dX11_isBetter_50 : decode cX11_isBetter 50 = .ok (.iconst 0, 1) := by decide +kernel
theorem dX11_isBetter_51 : decode cX11_isBetter 51 = .ok (.istore_n 2, 1) := by decide +kernel
theorem dX11_isBetter_52 : decode cX11_isBetter 52 = .ok (.iload_n 2, 1) := by decide +kernel
theorem dX11_isBetter_53 : decode cX11_isBetter 53 = .ok (.aload_n 0, 1) := by decide +kernel
theorem dX11_isBetter_54 : decode cX11_isBetter 54 = .ok (.getfield 184, 3) := by decide +kernel
theorem dX11_isBetter_57 : decode cX11_isBetter 57 = .ok (.if_icmp .ge 45, 3) := by decide +kernel
theorem dX11_isBetter_60 : decode cX11_isBetter 60 = .ok (.aload_n 0, 1) := by decide +kernel
theorem dX11_isBetter_61 : decode cX11_isBetter 61 = .ok (.getfield 90, 3) := by decide +kernel
theorem dX11_isBetter_64 : decode cX11_isBetter 64 = .ok (.iload_n 2, 1) := by decide +kernel
theorem dX11_isBetter_65 : decode cX11_isBetter 65 = .ok (.iaload, 1) := by decide +kernel
theorem dX11_isBetter_66 : decode cX11_isBetter 66 = .ok (.aload_n 0, 1) := by decide +kernel
theorem dX11_isBetter_67 : decode cX11_isBetter 67 = .ok (.getfield 99, 3) := by decide +kernel
theorem dX11_isBetter_70 : decode cX11_isBetter 70 = .ok (.iload_n 2, 1) := by decide +kernel
theorem dX11_isBetter_71 : decode cX11_isBetter 71 = .ok (.iaload, 1) := by decide +kernel
theorem dX11_isBetter_72 : decode cX11_isBetter 72 = .ok (.if_icmp .eq 24, 3) := by decide +kernel
theorem dX11_isBetter_75 : decode cX11_isBetter 75 = .ok (.aload_n 0, 1) := by decide +kernel
theorem dX11_isBetter_76 : decode cX11_isBetter 76 = .ok (.getfield 90, 3) := by decide +kernel
theorem dX11_isBetter_79 : decode cX11_isBetter 79 = .ok (.iload_n 2, 1) := by decide +kernel
theorem dX11_isBetter_80 : decode cX11_isBetter 80 = .ok (.iaload, 1) := by decide +kernel
theorem dX11_isBetter_81 : decode cX11_isBetter 81 = .ok (.aload_n 0, 1) := by decide +kernel
theorem dX11_isBetter_82 : decode cX11_isBetter 82 = .ok (.getfield 99, 3) := by decide +kernel
theorem dX11_isBetter_85 : decode cX11_isBetter 85 = .ok (.iload_n 2, 1) := by decide +kernel
theorem dX11_isBetter_86 : decode cX11_isBetter 86 = .ok (.iaload, 1) := by decide +kernel
theorem dX11_isBetter_87 : decode cX11_isBetter 87 = .ok (.if_icmp .ge 7, 3) := by decide +kernel
theorem dX11_isBetter_90 : decode cX11_isBetter 90 = .ok (.iconst 1, 1) := by decide +kernel
theorem dX11_isBetter_91 : decode cX11_isBetter 91 = .ok (.goto 4, 3) := by decide +kernel
theorem dX11_isBetter_94 : decode cX11_isBetter 94 = .ok (.iconst 0, 1) := by decide +kernel
theorem dX11_isBetter_95 : decode cX11_isBetter 95 = .ok (.ireturn, 1) := by decide +kernel
theorem dX11_isBetter_96 : decode cX11_isBetter 96 = .ok (.iinc 2 1, 3) := by decide +kernel
theorem dX11_isBetter_99 : decode cX11_isBetter 99 = .ok (.goto (-47), 3) := by decide +kernel
theorem dX11_isBetter_102 : decode cX11_isBetter 102 = .ok (.iconst 0, 1) := by decide +kernel
theorem dX11_isBetter_103 : decode cX11_isBetter 103 = .ok (.ireturn, 1) := by decide +kernel
theorem dX11_goalOf_0 : decode cX11_goalOf 0 = .ok (.iconst (-1), 1) := by decide +kernel
theorem dX11_goalOf_1 : decode cX11_goalOf 1 = .ok (.istore_n 3, 1) := by decide +kernel
theorem dX11_goalOf_2 : decode cX11_goalOf 2 = .ok (.iconst 0, 1) := by decide +kernel
theorem dX11_goalOf_3 : decode cX11_goalOf 3 = .ok (.istore 4, 2) := by decide +kernel
theorem dX11_goalOf_5 : decode cX11_goalOf 5 = .ok (.iload 4, 2) := by decide +kernel
theorem dX11_goalOf_7 : decode cX11_goalOf 7 = .ok (.aload_n 0, 1) := by decide +kernel
theorem dX11_goalOf_8 : decode cX11_goalOf 8 = .ok (.getfield 114, 3) := by decide +kernel
theorem dX11_goalOf_11 : decode cX11_goalOf 11 = .ok (.if_icmp .ge 103, 3) := by decide +kernel
theorem dX11_goalOf_14 : decode cX11_goalOf 14 = .ok (.aload_n 0, 1) := by decide +kernel
theorem dX11_goalOf_15 : decode cX11_goalOf 15 = .ok (.iload 4, 2) := by decide +kernel
theorem dX11_goalOf_17 : decode cX11_goalOf 17 = .ok (.iload_n 1, 1) := by decide +kernel
theorem dX11_goalOf_18 : decode cX11_goalOf 18 = .ok (.invokevirtual 206, 3) := by decide +kernel
theorem dX11_goalOf_21 : decode cX11_goalOf 21 = .ok (.ifCond .ne 6, 3) := by decide +kernel
theorem dX11_goalOf_24 : decode cX11_goalOf 24 = .ok (.goto 84, 3) := by decide +kernel
theorem dX11_goalOf_27 : decode cX11_goalOf 27 = .ok (.aload_n 0, 1) := by decide +kernel
theorem dX11_goalOf_28 : decode cX11_goalOf 28 = .ok (.iload_n 2, 1) := by decide +kernel
theorem dX11_goalOf_29 : decode cX11_goalOf 29 = .ok (.iload 4, 2) := by decide +kernel
theorem dX11_goalOf_31 : decode cX11_goalOf 31 = .ok (.invokevirtual 187, 3) := by decide +kernel
theorem dX11_goalOf_34 : decode cX11_goalOf 34 = .ok (.istore 5, 2) := by decide +kernel
theorem dX11_goalOf_36 : decode cX11_goalOf 36 = .ok (.iload 5, 2) := by decide +kernel
theorem dX11_goalOf_38 : decode cX11_goalOf 38 = .ok (.iconst (-1), 1) := by decide +kernel
theorem dX11_goalOf_39 : decode cX11_goalOf 39 = .ok (.if_icmp .eq 69, 3) := by decide +kernel
theorem dX11_goalOf_42 : decode cX11_goalOf 42 = .ok (.iload_n 3, 1) := by decide +kernel
theorem dX11_goalOf_43 : decode cX11_goalOf 43 = .ok (.iconst (-1), 1) := by decide +kernel
theorem dX11_goalOf_44 : decode cX11_goalOf 44 = .ok (.if_icmp .eq 15, 3) := by decide +kernel
theorem dX11_goalOf_47 : decode cX11_goalOf 47 = .ok (.aload_n 0, 1) := by decide +kernel
theorem dX11_goalOf_48 : decode cX11_goalOf 48 = .ok (.iload 5, 2) := by decide +kernel
theorem dX11_goalOf_50 : decode cX11_goalOf 50 = .ok (.invokevirtual 209, 3) := by decide +kernel
theorem dX11_goalOf_53 : decode cX11_goalOf 53 = .ok (.ifCond .ne 6, 3) := by decide +kernel
theorem dX11_goalOf_56 : decode cX11_goalOf 56 = .ok (.goto 52, 3) := by decide +kernel
theorem dX11_goalOf_59 : decode cX11_goalOf 59 = .ok (.iload 4, 2) := by decide +kernel
theorem dX11_goalOf_61 : decode cX11_goalOf 61 = .ok (.istore_n 3, 1) := by decide +kernel
theorem dX11_goalOf_62 : decode cX11_goalOf 62 = .ok (.aload_n 0, 1) := by decide +kernel
theorem dX11_goalOf_63 : decode cX11_goalOf 63 = .ok (.iload 5, 2) := by decide +kernel
theorem dX11_goalOf_65 : decode cX11_goalOf 65 = .ok (.putfield 200, 3) := by decide +kernel
theorem dX11_goalOf_68 : decode cX11_goalOf 68 = .ok (.aload_n 0, 1) := by decide +kernel
theorem dX11_goalOf_69 : decode cX11_goalOf 69 = .ok (.aload_n 0, 1) := by decide +kernel
theorem dX11_goalOf_70 : decode cX11_goalOf 70 = .ok (.getfield 184, 3) := by decide +kernel
theorem dX11_goalOf_73 : decode cX11_goalOf 73 = .ok (.putfield 203, 3) := by decide +kernel
theorem dX11_goalOf_76 : decode cX11_goalOf 76 = .ok (.iconst 0, 1) := by decide +kernel
theorem dX11_goalOf_77 : decode cX11_goalOf 77 = .ok (.istore 6, 2) := by decide +kernel
theorem dX11_goalOf_79 : decode cX11_goalOf 79 = .ok (.iload 6, 2) := by decide +kernel
theorem dX11_goalOf_81 : decode cX11_goalOf 81 = .ok (.aload_n 0, 1) := by decide +kernel
theorem dX11_goalOf_82 : decode cX11_goalOf 82 = .ok (.getfield 184, 3) := by decide +kernel
theorem dX11_goalOf_85 : decode cX11_goalOf 85 = .ok (.if_icmp .ge 23, 3) := by decide +kernel
theorem dX11_goalOf_88 : decode cX11_goalOf 88 = .ok (.aload_n 0, 1) := by decide +kernel
theorem dX11_goalOf_89 : decode cX11_goalOf 89 = .ok (.getfield 99, 3) := by decide +kernel
theorem dX11_goalOf_92 : decode cX11_goalOf 92 = .ok (.iload 6, 2) := by decide +kernel
theorem dX11_goalOf_94 : decode cX11_goalOf 94 = .ok (.aload_n 0, 1) := by decide +kernel
theorem dX11_goalOf_95 : decode cX11_goalOf 95 = .ok (.getfield 90, 3) := by decide +kernel
theorem dX11_goalOf_98 : decode cX11_goalOf 98 = .ok (.iload 6, 2) := by decide +kernel
theorem dX11_goalOf_100 : decode cX11_goalOf 100 = .ok (.iaload, 1) := by decide +kernel
theorem dX11_goalOf_101 : decode cX11_goalOf 101 = .ok (.iastore, 1) := by decide +kernel
theorem dX11_goalOf_102 : decode cX11_goalOf 102 = .ok (.iinc 6 1, 3) := by decide +kernel
theorem dX11_goalOf_105 : decode cX11_goalOf 105 = .ok (.goto (-26), 3) := by decide +kernel
theorem dX11_goalOf_108 : decode cX11_goalOf 108 = .ok (.iinc 4 1, 3) := by decide +kernel
theorem dX11_goalOf_111 : decode cX11_goalOf 111 = .ok (.goto (-106), 3) := by decide +kernel
theorem dX11_goalOf_114 : decode cX11_goalOf 114 = .ok (.iload_n 3, 1) := by decide +kernel
theorem dX11_goalOf_115 : decode cX11_goalOf 115 = .ok (.ireturn, 1) := by decide +kernel
theorem dX11_plan_0 : decode cX11_plan 0 = .ok (.iload_n 1, 1) := by decide +kernel
theorem dX11_plan_1 : decode cX11_plan 1 = .ok (.aload_n 0, 1) := by decide +kernel
theorem dX11_plan_2 : decode cX11_plan 2 = .ok (.getfield 136, 3) := by decide +kernel
theorem dX11_plan_5 : decode cX11_plan 5 = .ok (.sipush 999, 3) := by decide +kernel
theorem dX11_plan_8 : decode cX11_plan 8 = .ok (.invokestatic 110, 3) := by decide +kernel
theorem dX11_plan_11 : decode cX11_plan 11 = .ok (.ifCond .ne 5, 3) := by decide +kernel
theorem dX11_plan_14 : decode cX11_plan 14 = .ok (.iconst (-1), 1) := by decide +kernel
theorem dX11_plan_15 : decode cX11_plan 15 = .ok (.ireturn, 1) := by decide +kernel
theorem dX11_plan_16 : decode cX11_plan 16 = .ok (.iconst 0, 1) := by decide +kernel
theorem dX11_plan_17 : decode cX11_plan 17 = .ok (.istore_n 2, 1) := by decide +kernel
theorem dX11_plan_18 : decode cX11_plan 18 = .ok (.iconst 0, 1) := by decide +kernel
theorem dX11_plan_19 : decode cX11_plan 19 = .ok (.istore_n 3, 1) := by decide +kernel
theorem dX11_plan_20 : decode cX11_plan 20 = .ok (.iconst 0, 1) := by decide +kernel
theorem dX11_plan_21 : decode cX11_plan 21 = .ok (.istore 4, 2) := by decide +kernel
theorem dX11_plan_23 : decode cX11_plan 23 = .ok (.iload 4, 2) := by decide +kernel
theorem dX11_plan_25 : decode cX11_plan 25 = .ok (.aload_n 0, 1) := by decide +kernel
theorem dX11_plan_26 : decode cX11_plan 26 = .ok (.getfield 117, 3) := by decide +kernel
theorem dX11_plan_29 : decode cX11_plan 29 = .ok (.if_icmp .ge 44, 3) := by decide +kernel
theorem dX11_plan_32 : decode cX11_plan 32 = .ok (.aload_n 0, 1) := by decide +kernel
theorem dX11_plan_33 : decode cX11_plan 33 = .ok (.iload 4, 2) := by decide +kernel
theorem dX11_plan_35 : decode cX11_plan 35 = .ok (.invokevirtual 212, 3) := by decide +kernel
theorem dX11_plan_38 : decode cX11_plan 38 = .ok (.ifCond .ne 6, 3) := by decide +kernel
theorem dX11_plan_41 : decode cX11_plan 41 = .ok (.goto 26, 3) := by decide +kernel
theorem dX11_plan_44 : decode cX11_plan 44 = .ok (.aload_n 0, 1) := by decide +kernel
theorem dX11_plan_45 : decode cX11_plan 45 = .ok (.iload_n 1, 1) := by decide +kernel
theorem dX11_plan_46 : decode cX11_plan 46 = .ok (.iload 4, 2) := by decide +kernel
theorem dX11_plan_48 : decode cX11_plan 48 = .ok (.invokevirtual 215, 3) := by decide +kernel
theorem dX11_plan_51 : decode cX11_plan 51 = .ok (.iconst (-1), 1) := by decide +kernel
theorem dX11_plan_52 : decode cX11_plan 52 = .ok (.if_icmp .ne 8, 3) := by decide +kernel
theorem dX11_plan_55 : decode cX11_plan 55 = .ok (.iconst 1, 1) := by decide +kernel
theorem dX11_plan_56 : decode cX11_plan 56 = .ok (.istore_n 3, 1) := by decide +kernel
theorem dX11_plan_57 : decode cX11_plan 57 = .ok (.goto 10, 3) := by decide +kernel
theorem dX11_plan_60 : decode cX11_plan 60 = .ok (.iload_n 2, 1) := by decide +kernel
theorem dX11_plan_61 : decode cX11_plan 61 = .ok (.aload_n 0, 1) := by decide +kernel
theorem dX11_plan_62 : decode cX11_plan 62 = .ok (.getfield 200, 3) := by decide +kernel
theorem dX11_plan_65 : decode cX11_plan 65 = .ok (.iadd, 1) := by decide +kernel
theorem dX11_plan_66 : decode cX11_plan 66 = .ok (.istore_n 2, 1) := by decide +kernel
theorem dX11_plan_67 : decode cX11_plan 67 = .ok (.iinc 4 1, 3) := by decide +kernel
theorem dX11_plan_70 : decode cX11_plan 70 = .ok (.goto (-47), 3) := by decide +kernel
theorem dX11_plan_73 : decode cX11_plan 73 = .ok (.iload_n 3, 1) := by decide +kernel
theorem dX11_plan_74 : decode cX11_plan 74 = .ok (.ifCond .eq 8, 3) := by decide +kernel
theorem dX11_plan_77 : decode cX11_plan 77 = .ok (.bipush (-2), 2) := by decide +kernel
theorem dX11_plan_79 : decode cX11_plan 79 = .ok (.goto 4, 3) := by decide +kernel
theorem dX11_plan_82 : decode cX11_plan 82 = .ok (.iload_n 2, 1) := by decide +kernel
theorem dX11_plan_83 : decode cX11_plan 83 = .ok (.ireturn, 1) := by decide +kernel
theorem dX11_goal_0 : decode cX11_goal 0 = .ok (.iload_n 1, 1) := by decide +kernel
theorem dX11_goal_1 : decode cX11_goal 1 = .ok (.aload_n 0, 1) := by decide +kernel
theorem dX11_goal_2 : decode cX11_goal 2 = .ok (.getfield 136, 3) := by decide +kernel
theorem dX11_goal_5 : decode cX11_goal 5 = .ok (.sipush 999, 3) := by decide +kernel
theorem dX11_goal_8 : decode cX11_goal 8 = .ok (.invokestatic 110, 3) := by decide +kernel
theorem dX11_goal_11 : decode cX11_goal 11 = .ok (.ifCond .eq 28, 3) := by decide +kernel
theorem dX11_goal_14 : decode cX11_goal 14 = .ok (.aload_n 0, 1) := by decide +kernel
theorem dX11_goal_15 : decode cX11_goal 15 = .ok (.iload_n 2, 1) := by decide +kernel
theorem dX11_goal_16 : decode cX11_goal 16 = .ok (.invokevirtual 120, 3) := by decide +kernel
theorem dX11_goal_19 : decode cX11_goal 19 = .ok (.ifCond .eq 20, 3) := by decide +kernel
theorem dX11_goal_22 : decode cX11_goal 22 = .ok (.aload_n 0, 1) := by decide +kernel
theorem dX11_goal_23 : decode cX11_goal 23 = .ok (.iload_n 2, 1) := by decide +kernel
theorem dX11_goal_24 : decode cX11_goal 24 = .ok (.invokevirtual 212, 3) := by decide +kernel
theorem dX11_goal_27 : decode cX11_goal 27 = .ok (.ifCond .eq 12, 3) := by decide +kernel
theorem dX11_goal_30 : decode cX11_goal 30 = .ok (.aload_n 0, 1) := by decide +kernel
theorem dX11_goal_31 : decode cX11_goal 31 = .ok (.iload_n 1, 1) := by decide +kernel
theorem dX11_goal_32 : decode cX11_goal 32 = .ok (.iload_n 2, 1) := by decide +kernel
theorem dX11_goal_33 : decode cX11_goal 33 = .ok (.invokevirtual 215, 3) := by decide +kernel
theorem dX11_goal_36 : decode cX11_goal 36 = .ok (.goto 4, 3) := by decide +kernel
theorem dX11_goal_39 : decode cX11_goal 39 = .ok (.iconst (-1), 1) := by decide +kernel
theorem dX11_goal_40 : decode cX11_goal 40 = .ok (.ireturn, 1) := by decide +kernel
theorem dX11_look_0 : decode cX11_look 0 = .ok (.aload_n 0, 1) := by decide +kernel
theorem dX11_look_1 : decode cX11_look 1 = .ok (.iload_n 1, 1) := by decide +kernel
theorem dX11_look_2 : decode cX11_look 2 = .ok (.invokevirtual 120, 3) := by decide +kernel
theorem dX11_look_5 : decode cX11_look 5 = .ok (.ifCond .ne 5, 3) := by decide +kernel
theorem dX11_look_8 : decode cX11_look 8 = .ok (.iconst (-1), 1) := by decide +kernel
theorem dX11_look_9 : decode cX11_look 9 = .ok (.ireturn, 1) := by decide +kernel
theorem dX11_look_10 : decode cX11_look 10 = .ok (.iload_n 2, 1) := by decide +kernel
theorem dX11_look_11 : decode cX11_look 11 = .ok (.bipush 100, 2) := by decide +kernel
theorem dX11_look_13 : decode cX11_look 13 = .ok (.isub, 1) := by decide +kernel
theorem dX11_look_14 : decode cX11_look 14 = .ok (.iconst 0, 1) := by decide +kernel
theorem dX11_look_15 : decode cX11_look 15 = .ok (.aload_n 0, 1) := by decide +kernel
theorem dX11_look_16 : decode cX11_look 16 = .ok (.getfield 33, 3) := by decide +kernel
theorem dX11_look_19 : decode cX11_look 19 = .ok (.iload_n 1, 1) := by decide +kernel
theorem dX11_look_20 : decode cX11_look 20 = .ok (.iaload, 1) := by decide +kernel
theorem dX11_look_21 : decode cX11_look 21 = .ok (.iconst 1, 1) := by decide +kernel
theorem dX11_look_22 : decode cX11_look 22 = .ok (.isub, 1) := by decide +kernel
theorem dX11_look_23 : decode cX11_look 23 = .ok (.invokestatic 110, 3) := by decide +kernel
theorem dX11_look_26 : decode cX11_look 26 = .ok (.ifCond .eq 13, 3) := by decide +kernel
theorem dX11_look_29 : decode cX11_look 29 = .ok (.aload_n 0, 1) := by decide +kernel
theorem dX11_look_30 : decode cX11_look 30 = .ok (.iload_n 1, 1) := by decide +kernel
theorem dX11_look_31 : decode cX11_look 31 = .ok (.iload_n 2, 1) := by decide +kernel
theorem dX11_look_32 : decode cX11_look 32 = .ok (.bipush 100, 2) := by decide +kernel
theorem dX11_look_34 : decode cX11_look 34 = .ok (.isub, 1) := by decide +kernel
theorem dX11_look_35 : decode cX11_look 35 = .ok (.invokevirtual 145, 3) := by decide +kernel
theorem dX11_look_38 : decode cX11_look 38 = .ok (.ireturn, 1) := by decide +kernel
theorem dX11_look_39 : decode cX11_look 39 = .ok (.iload_n 2, 1) := by decide +kernel
theorem dX11_look_40 : decode cX11_look 40 = .ok (.tableswitch 109 0 5 #[40, 47, 65, 71, 78, 85], 40) := by decide +kernel
theorem dX11_look_80 : decode cX11_look 80 = .ok (.aload_n 0, 1) := by decide +kernel
theorem dX11_look_81 : decode cX11_look 81 = .ok (.getfield 33, 3) := by decide +kernel
theorem dX11_look_84 : decode cX11_look 84 = .ok (.iload_n 1, 1) := by decide +kernel
theorem dX11_look_85 : decode cX11_look 85 = .ok (.iaload, 1) := by decide +kernel
theorem dX11_look_86 : decode cX11_look 86 = .ok (.ireturn, 1) := by decide +kernel
theorem dX11_look_87 : decode cX11_look 87 = .ok (.aload_n 0, 1) := by decide +kernel
theorem dX11_look_88 : decode cX11_look 88 = .ok (.iload_n 1, 1) := by decide +kernel
theorem dX11_look_89 : decode cX11_look 89 = .ok (.invokevirtual 156, 3) := by decide +kernel
theorem dX11_look_92 : decode cX11_look 92 = .ok (.iconst (-1), 1) := by decide +kernel
theorem dX11_look_93 : decode cX11_look 93 = .ok (.if_icmp .ne 7, 3) := by decide +kernel
theorem dX11_look_96 : decode cX11_look 96 = .ok (.iconst 0, 1) := by decide +kernel
theorem dX11_look_97 : decode cX11_look 97 = .ok (.goto 7, 3) := by decide +kernel
theorem dX11_look_100 : decode cX11_look 100 = .ok (.aload_n 0, 1) := by decide +kernel
theorem dX11_look_101 : decode cX11_look 101 = .ok (.getfield 139, 3) := by decide +kernel
theorem dX11_look_104 : decode cX11_look 104 = .ok (.ireturn, 1) := by decide +kernel
theorem dX11_look_105 : decode cX11_look 105 = .ok (.aload_n 0, 1) := by decide +kernel
theorem dX11_look_106 : decode cX11_look 106 = .ok (.iload_n 1, 1) := by decide +kernel
theorem dX11_look_107 : decode cX11_look 107 = .ok (.invokevirtual 177, 3) := by decide +kernel
theorem dX11_look_110 : decode cX11_look 110 = .ok (.ireturn, 1) := by decide +kernel
theorem dX11_look_111 : decode cX11_look 111 = .ok (.aload_n 0, 1) := by decide +kernel
theorem dX11_look_112 : decode cX11_look 112 = .ok (.getfield 36, 3) := by decide +kernel
theorem dX11_look_115 : decode cX11_look 115 = .ok (.iload_n 1, 1) := by decide +kernel
theorem dX11_look_116 : decode cX11_look 116 = .ok (.iaload, 1) := by decide +kernel
theorem dX11_look_117 : decode cX11_look 117 = .ok (.ireturn, 1) := by decide +kernel
theorem dX11_look_118 : decode cX11_look 118 = .ok (.aload_n 0, 1) := by decide +kernel
theorem dX11_look_119 : decode cX11_look 119 = .ok (.getfield 39, 3) := by decide +kernel
theorem dX11_look_122 : decode cX11_look 122 = .ok (.iload_n 1, 1) := by decide +kernel
theorem dX11_look_123 : decode cX11_look 123 = .ok (.iaload, 1) := by decide +kernel
theorem dX11_look_124 : decode cX11_look 124 = .ok (.ireturn, 1) := by decide +kernel
theorem dX11_look_125 : decode cX11_look 125 = .ok (.iload_n 1, 1) := by decide +kernel
theorem dX11_look_126 : decode cX11_look 126 = .ok (.istore_n 3, 1) := by decide +kernel
theorem dX11_look_127 : decode cX11_look 127 = .ok (.aload_n 0, 1) := by decide +kernel
theorem dX11_look_128 : decode cX11_look 128 = .ok (.getfield 39, 3) := by decide +kernel
theorem dX11_look_131 : decode cX11_look 131 = .ok (.iload_n 3, 1) := by decide +kernel
theorem dX11_look_132 : decode cX11_look 132 = .ok (.iaload, 1) := by decide +kernel
theorem dX11_look_133 : decode cX11_look 133 = .ok (.iconst (-1), 1) := by decide +kernel
theorem dX11_look_134 : decode cX11_look 134 = .ok (.if_icmp .eq 13, 3) := by decide +kernel
theorem dX11_look_137 : decode cX11_look 137 = .ok (.aload_n 0, 1) := by decide +kernel
theorem dX11_look_138 : decode cX11_look 138 = .ok (.getfield 39, 3) := by decide +kernel
theorem dX11_look_141 : decode cX11_look 141 = .ok (.iload_n 3, 1) := by decide +kernel
theorem dX11_look_142 : decode cX11_look 142 = .ok (.iaload, 1) := by decide +kernel
theorem dX11_look_143 : decode cX11_look 143 = .ok (.istore_n 3, 1) := by decide +kernel
theorem dX11_look_144 : decode cX11_look 144 = .ok (.goto (-17), 3) := by decide +kernel
theorem dX11_look_147 : decode cX11_look 147 = .ok (.iload_n 3, 1) := by decide +kernel
theorem dX11_look_148 : decode cX11_look 148 = .ok (.ireturn, 1) := by decide +kernel
theorem dX11_look_149 : decode cX11_look 149 = .ok (.iconst (-1), 1) := by decide +kernel
theorem dX11_look_150 : decode cX11_look 150 = .ok (.ireturn, 1) := by decide +kernel
theorem dX11_count_0 : decode cX11_count 0 = .ok (.iconst 0, 1) := by decide +kernel
theorem dX11_count_1 : decode cX11_count 1 = .ok (.istore_n 2, 1) := by decide +kernel
theorem dX11_count_2 : decode cX11_count 2 = .ok (.iload_n 1, 1) := by decide +kernel
theorem dX11_count_3 : decode cX11_count 3 = .ok (.tableswitch 149 0 7 #[45, 50, 55, 60, 65, 70, 75, 110], 45) := by decide +kernel
theorem dX11_count_48 : decode cX11_count 48 = .ok (.aload_n 0, 1) := by decide +kernel
theorem dX11_count_49 : decode cX11_count 49 = .ok (.getfield 114, 3) := by decide +kernel
theorem dX11_count_52 : decode cX11_count 52 = .ok (.ireturn, 1) := by decide +kernel
theorem dX11_count_53 : decode cX11_count 53 = .ok (.aload_n 0, 1) := by decide +kernel
theorem dX11_count_54 : decode cX11_count 54 = .ok (.getfield 117, 3) := by decide +kernel
theorem dX11_count_57 : decode cX11_count 57 = .ok (.ireturn, 1) := by decide +kernel
theorem dX11_count_58 : decode cX11_count 58 = .ok (.aload_n 0, 1) := by decide +kernel
theorem dX11_count_59 : decode cX11_count 59 = .ok (.getfield 130, 3) := by decide +kernel
theorem dX11_count_62 : decode cX11_count 62 = .ok (.ireturn, 1) := by decide +kernel
theorem dX11_count_63 : decode cX11_count 63 = .ok (.aload_n 0, 1) := by decide +kernel
theorem dX11_count_64 : decode cX11_count 64 = .ok (.getfield 133, 3) := by decide +kernel
theorem dX11_count_67 : decode cX11_count 67 = .ok (.ireturn, 1) := by decide +kernel
theorem dX11_count_68 : decode cX11_count 68 = .ok (.aload_n 0, 1) := by decide +kernel
theorem dX11_count_69 : decode cX11_count 69 = .ok (.getfield 136, 3) := by decide +kernel
theorem dX11_count_72 : decode cX11_count 72 = .ok (.ireturn, 1) := by decide +kernel
theorem dX11_count_73 : decode cX11_count 73 = .ok (.aload_n 0, 1) := by decide +kernel
theorem dX11_count_74 : decode cX11_count 74 = .ok (.getfield 102, 3) := by decide +kernel
theorem dX11_count_77 : decode cX11_count 77 = .ok (.ireturn, 1) := by decide +kernel
theorem dX11_count_78 : decode cX11_count 78 = .ok (.iconst 0, 1) := by decide +kernel
theorem dX11_count_79 : decode cX11_count 79 = .ok (.istore_n 3, 1) := by decide +kernel
theorem dX11_count_80 : decode cX11_count 80 = .ok (.iload_n 3, 1) := by decide +kernel
theorem dX11_count_81 : decode cX11_count 81 = .ok (.aload_n 0, 1) := by decide +kernel
theorem dX11_count_82 : decode cX11_count 82 = .ok (.getfield 117, 3) := by decide +kernel
theorem dX11_count_85 : decode cX11_count 85 = .ok (.if_icmp .ge 26, 3) := by decide +kernel
theorem dX11_count_88 : decode cX11_count 88 = .ok (.iload_n 2, 1) := by decide +kernel
theorem dX11_count_89 : decode cX11_count 89 = .ok (.aload_n 0, 1) := by decide +kernel
theorem dX11_count_90 : decode cX11_count 90 = .ok (.iload_n 3, 1) := by decide +kernel
theorem dX11_count_91 : decode cX11_count 91 = .ok (.invokevirtual 156, 3) := by decide +kernel
theorem dX11_count_94 : decode cX11_count 94 = .ok (.iconst (-1), 1) := by decide +kernel
theorem dX11_count_95 : decode cX11_count 95 = .ok (.if_icmp .ne 7, 3) := by decide +kernel
theorem dX11_count_98 : decode cX11_count 98 = .ok (.iconst 1, 1) := by decide +kernel
theorem dX11_count_99 : decode cX11_count 99 = .ok (.goto 4, 3) := by decide +kernel
theorem dX11_count_102 : decode cX11_count 102 = .ok (.iconst 0, 1) := by decide +kernel
theorem dX11_count_103 : decode cX11_count 103 = .ok (.iadd, 1) := by decide +kernel
theorem dX11_count_104 : decode cX11_count 104 = .ok (.istore_n 2, 1) := by decide +kernel
theorem dX11_count_105 : decode cX11_count 105 = .ok (.iinc 3 1, 3) := by decide +kernel
theorem dX11_count_108 : decode cX11_count 108 = .ok (.goto (-28), 3) := by decide +kernel
theorem dX11_count_111 : decode cX11_count 111 = .ok (.iload_n 2, 1) := by decide +kernel
theorem dX11_count_112 : decode cX11_count 112 = .ok (.ireturn, 1) := by decide +kernel
theorem dX11_count_113 : decode cX11_count 113 = .ok (.iconst 0, 1) := by decide +kernel
theorem dX11_count_114 : decode cX11_count 114 = .ok (.istore_n 3, 1) := by decide +kernel
theorem dX11_count_115 : decode cX11_count 115 = .ok (.iload_n 3, 1) := by decide +kernel
theorem dX11_count_116 : decode cX11_count 116 = .ok (.aload_n 0, 1) := by decide +kernel
theorem dX11_count_117 : decode cX11_count 117 = .ok (.getfield 117, 3) := by decide +kernel
theorem dX11_count_120 : decode cX11_count 120 = .ok (.if_icmp .ge 30, 3) := by decide +kernel
theorem dX11_count_123 : decode cX11_count 123 = .ok (.iload_n 2, 1) := by decide +kernel
theorem dX11_count_124 : decode cX11_count 124 = .ok (.aload_n 0, 1) := by decide +kernel
theorem dX11_count_125 : decode cX11_count 125 = .ok (.iload_n 3, 1) := by decide +kernel
theorem dX11_count_126 : decode cX11_count 126 = .ok (.iconst 0, 1) := by decide +kernel
theorem dX11_count_127 : decode cX11_count 127 = .ok (.invokevirtual 197, 3) := by decide +kernel
theorem dX11_count_130 : decode cX11_count 130 = .ok (.aload_n 0, 1) := by decide +kernel
theorem dX11_count_131 : decode cX11_count 131 = .ok (.getfield 136, 3) := by decide +kernel
theorem dX11_count_134 : decode cX11_count 134 = .ok (.if_icmp .ge 7, 3) := by decide +kernel
theorem dX11_count_137 : decode cX11_count 137 = .ok (.iconst 1, 1) := by decide +kernel
theorem dX11_count_138 : decode cX11_count 138 = .ok (.goto 4, 3) := by decide +kernel
theorem dX11_count_141 : decode cX11_count 141 = .ok (.iconst 0, 1) := by decide +kernel
theorem dX11_count_142 : decode cX11_count 142 = .ok (.iadd, 1) := by decide +kernel
theorem dX11_count_143 : decode cX11_count 143 = .ok (.istore_n 2, 1) := by decide +kernel
theorem dX11_count_144 : decode cX11_count 144 = .ok (.iinc 3 1, 3) := by decide +kernel
theorem dX11_count_147 : decode cX11_count 147 = .ok (.goto (-32), 3) := by decide +kernel
theorem dX11_count_150 : decode cX11_count 150 = .ok (.iload_n 2, 1) := by decide +kernel
theorem dX11_count_151 : decode cX11_count 151 = .ok (.ireturn, 1) := by decide +kernel
theorem dX11_count_152 : decode cX11_count 152 = .ok (.iconst (-1), 1) := by decide +kernel
theorem dX11_count_153 : decode cX11_count 153 = .ok (.ireturn, 1) := by decide +kernel
theorem dJ9_max_7cf53_0 : decode cJ9_max_7cf53 0 = .ok (.iload_n 0, 1) := by decide +kernel
theorem dJ9_max_7cf53_1 : decode cJ9_max_7cf53 1 = .ok (.iload_n 1, 1) := by decide +kernel
theorem dJ9_max_7cf53_2 : decode cJ9_max_7cf53 2 = .ok (.if_icmp .lt 7, 3) := by decide +kernel
theorem dJ9_max_7cf53_5 : decode cJ9_max_7cf53 5 = .ok (.iload_n 0, 1) := by decide +kernel
theorem dJ9_max_7cf53_6 : decode cJ9_max_7cf53 6 = .ok (.goto 4, 3) := by decide +kernel
theorem dJ9_max_7cf53_9 : decode cJ9_max_7cf53 9 = .ok (.iload_n 1, 1) := by decide +kernel
theorem dJ9_max_7cf53_10 : decode cJ9_max_7cf53 10 = .ok (.ireturn, 1) := by decide +kernel
theorem dJ9_min_7cf53_0 : decode cJ9_min_7cf53 0 = .ok (.iload_n 0, 1) := by decide +kernel
theorem dJ9_min_7cf53_1 : decode cJ9_min_7cf53 1 = .ok (.iload_n 1, 1) := by decide +kernel
theorem dJ9_min_7cf53_2 : decode cJ9_min_7cf53 2 = .ok (.if_icmp .gt 7, 3) := by decide +kernel
theorem dJ9_min_7cf53_5 : decode cJ9_min_7cf53 5 = .ok (.iload_n 0, 1) := by decide +kernel
theorem dJ9_min_7cf53_6 : decode cJ9_min_7cf53 6 = .ok (.goto 4, 3) := by decide +kernel
theorem dJ9_min_7cf53_9 : decode cJ9_min_7cf53 9 = .ok (.iload_n 1, 1) := by decide +kernel
theorem dJ9_min_7cf53_10 : decode cJ9_min_7cf53 10 = .ok (.ireturn, 1) := by decide +kernel
theorem dJ9_min_f86c9_0 : decode cJ9_min_f86c9 0 = .ok (.lload_n 0, 1) := by decide +kernel
theorem dJ9_min_f86c9_1 : decode cJ9_min_f86c9 1 = .ok (.lload_n 2, 1) := by decide +kernel
theorem dJ9_min_f86c9_2 : decode cJ9_min_f86c9 2 = .ok (.lcmp, 1) := by decide +kernel
theorem dJ9_min_f86c9_3 : decode cJ9_min_f86c9 3 = .ok (.ifCond .gt 7, 3) := by decide +kernel
theorem dJ9_min_f86c9_6 : decode cJ9_min_f86c9 6 = .ok (.lload_n 0, 1) := by decide +kernel
theorem dJ9_min_f86c9_7 : decode cJ9_min_f86c9 7 = .ok (.goto 4, 3) := by decide +kernel
theorem dJ9_min_f86c9_10 : decode cJ9_min_f86c9 10 = .ok (.lload_n 2, 1) := by decide +kernel
theorem dJ9_min_f86c9_11 : decode cJ9_min_f86c9 11 = .ok (.lreturn, 1) := by decide +kernel
theorem dJ7_fill_d0a16_0 : decode cJ7_fill_d0a16 0 = .ok (.iconst 0, 1) := by decide +kernel
theorem dJ7_fill_d0a16_1 : decode cJ7_fill_d0a16 1 = .ok (.istore_n 3, 1) := by decide +kernel
theorem dJ7_fill_d0a16_2 : decode cJ7_fill_d0a16 2 = .ok (.aload_n 0, 1) := by decide +kernel
theorem dJ7_fill_d0a16_3 : decode cJ7_fill_d0a16 3 = .ok (.arraylength, 1) := by decide +kernel
theorem dJ7_fill_d0a16_4 : decode cJ7_fill_d0a16 4 = .ok (.istore 4, 2) := by decide +kernel
theorem dJ7_fill_d0a16_6 : decode cJ7_fill_d0a16 6 = .ok (.iload_n 3, 1) := by decide +kernel
theorem dJ7_fill_d0a16_7 : decode cJ7_fill_d0a16 7 = .ok (.iload 4, 2) := by decide +kernel
theorem dJ7_fill_d0a16_9 : decode cJ7_fill_d0a16 9 = .ok (.if_icmp .ge 13, 3) := by decide +kernel
theorem dJ7_fill_d0a16_12 : decode cJ7_fill_d0a16 12 = .ok (.aload_n 0, 1) := by decide +kernel
theorem dJ7_fill_d0a16_13 : decode cJ7_fill_d0a16 13 = .ok (.iload_n 3, 1) := by decide +kernel
theorem dJ7_fill_d0a16_14 : decode cJ7_fill_d0a16 14 = .ok (.lload_n 1, 1) := by decide +kernel
