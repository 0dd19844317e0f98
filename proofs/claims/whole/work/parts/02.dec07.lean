theorem dX11_letting_26 : decode cX11_letting 26 = .ok (.if_icmp .ne 24, 3) := by decide +kernel
theorem dX11_letting_29 : decode cX11_letting 29 = .ok (.aload_n 0, 1) := by decide +kernel
theorem dX11_letting_30 : decode cX11_letting 30 = .ok (.getfield 134, 3) := by decide +kernel
theorem dX11_letting_33 : decode cX11_letting 33 = .ok (.sipush 128, 3) := by decide +kernel
theorem dX11_letting_36 : decode cX11_letting 36 = .ok (.aload_n 0, 1) := by decide +kernel
theorem dX11_letting_37 : decode cX11_letting 37 = .ok (.getfield 46, 3) := by decide +kernel
theorem dX11_letting_40 : decode cX11_letting 40 = .ok (.aload_n 0, 1) := by decide +kernel
theorem dX11_letting_41 : decode cX11_letting 41 = .ok (.getfield 236, 3) := by decide +kernel
theorem dX11_letting_44 : decode cX11_letting 44 = .ok (.iaload, 1) := by decide +kernel
theorem dX11_letting_45 : decode cX11_letting 45 = .ok (.imul, 1) := by decide +kernel
theorem dX11_letting_46 : decode cX11_letting 46 = .ok (.iload_n 2, 1) := by decide +kernel
theorem dX11_letting_47 : decode cX11_letting 47 = .ok (.iadd, 1) := by decide +kernel
theorem dX11_letting_48 : decode cX11_letting 48 = .ok (.iaload, 1) := by decide +kernel
theorem dX11_letting_49 : decode cX11_letting 49 = .ok (.ireturn, 1) := by decide +kernel
theorem dX11_letting_50 : decode cX11_letting 50 = .ok (.aload_n 0, 1) := by decide +kernel
theorem dX11_letting_51 : decode cX11_letting 51 = .ok (.getfield 46, 3) := by decide +kernel
theorem dX11_letting_54 : decode cX11_letting 54 = .ok (.aload_n 0, 1) := by decide +kernel
theorem dX11_letting_55 : decode cX11_letting 55 = .ok (.getfield 236, 3) := by decide +kernel
theorem dX11_letting_58 : decode cX11_letting 58 = .ok (.iaload, 1) := by decide +kernel
theorem dX11_letting_59 : decode cX11_letting 59 = .ok (.iconst 1, 1) := by decide +kernel
theorem dX11_letting_60 : decode cX11_letting 60 = .ok (.isub, 1) := by decide +kernel
theorem dX11_letting_61 : decode cX11_letting 61 = .ok (.istore_n 3, 1) := by decide +kernel
theorem dX11_letting_62 : decode cX11_letting 62 = .ok (.iload_n 3, 1) := by decide +kernel
theorem dX11_letting_63 : decode cX11_letting 63 = .ok (.iload_n 1, 1) := by decide +kernel
theorem dX11_letting_64 : decode cX11_letting 64 = .ok (.if_icmp .le 20, 3) := by decide +kernel
theorem dX11_letting_67 : decode cX11_letting 67 = .ok (.iload_n 2, 1) := by decide +kernel
theorem dX11_letting_68 : decode cX11_letting 68 = .ok (.aload_n 0, 1) := by decide +kernel
theorem dX11_letting_69 : decode cX11_letting 69 = .ok (.iload_n 3, 1) := by decide +kernel
theorem dX11_letting_70 : decode cX11_letting 70 = .ok (.iload_n 2, 1) := by decide +kernel
theorem dX11_letting_71 : decode cX11_letting 71 = .ok (.invokevirtual 458, 3) := by decide +kernel
theorem dX11_letting_74 : decode cX11_letting 74 = .ok (.iconst (-1), 1) := by decide +kernel
theorem dX11_letting_75 : decode cX11_letting 75 = .ok (.ixor, 1) := by decide +kernel
theorem dX11_letting_76 : decode cX11_letting 76 = .ok (.iand, 1) := by decide +kernel
theorem dX11_letting_77 : decode cX11_letting 77 = .ok (.istore_n 2, 1) := by decide +kernel
theorem dX11_letting_78 : decode cX11_letting 78 = .ok (.iinc 3 (-1), 3) := by decide +kernel
theorem dX11_letting_81 : decode cX11_letting 81 = .ok (.goto (-19), 3) := by decide +kernel
theorem dX11_letting_84 : decode cX11_letting 84 = .ok (.aload_n 0, 1) := by decide +kernel
theorem dX11_letting_85 : decode cX11_letting 85 = .ok (.iload_n 1, 1) := by decide +kernel
theorem dX11_letting_86 : decode cX11_letting 86 = .ok (.iload_n 2, 1) := by decide +kernel
theorem dX11_letting_87 : decode cX11_letting 87 = .ok (.invokevirtual 458, 3) := by decide +kernel
theorem dX11_letting_90 : decode cX11_letting 90 = .ok (.ireturn, 1) := by decide +kernel
theorem dX11_areAllIn_0 : decode cX11_areAllIn 0 = .ok (.iload_n 1, 1) := by decide +kernel
theorem dX11_areAllIn_1 : decode cX11_areAllIn 1 = .ok (.ifCond .ne 13, 3) := by decide +kernel
theorem dX11_areAllIn_4 : decode cX11_areAllIn 4 = .ok (.iload_n 2, 1) := by decide +kernel
theorem dX11_areAllIn_5 : decode cX11_areAllIn 5 = .ok (.ifCond .ne 7, 3) := by decide +kernel
theorem dX11_areAllIn_8 : decode cX11_areAllIn 8 = .ok (.iconst 1, 1) := by decide +kernel
theorem dX11_areAllIn_9 : decode cX11_areAllIn 9 = .ok (.goto 4, 3) := by decide +kernel
theorem dX11_areAllIn_12 : decode cX11_areAllIn 12 = .ok (.iconst 0, 1) := by decide +kernel
theorem dX11_areAllIn_13 : decode cX11_areAllIn 13 = .ok (.ireturn, 1) := by decide +kernel
theorem dX11_areAllIn_14 : decode cX11_areAllIn 14 = .ok (.iload_n 1, 1) := by decide +kernel
theorem dX11_areAllIn_15 : decode cX11_areAllIn 15 = .ok (.invokestatic 434, 3) := by decide +kernel
theorem dX11_areAllIn_18 : decode cX11_areAllIn 18 = .ok (.istore_n 3, 1) := by decide +kernel
theorem dX11_areAllIn_19 : decode cX11_areAllIn 19 = .ok (.iconst 0, 1) := by decide +kernel
theorem dX11_areAllIn_20 : decode cX11_areAllIn 20 = .ok (.istore 4, 2) := by decide +kernel
theorem dX11_areAllIn_22 : decode cX11_areAllIn 22 = .ok (.iload 4, 2) := by decide +kernel
theorem dX11_areAllIn_24 : decode cX11_areAllIn 24 = .ok (.iload_n 2, 1) := by decide +kernel
theorem dX11_areAllIn_25 : decode cX11_areAllIn 25 = .ok (.if_icmp .gt 48, 3) := by decide +kernel
theorem dX11_areAllIn_28 : decode cX11_areAllIn 28 = .ok (.aload_n 0, 1) := by decide +kernel
theorem dX11_areAllIn_29 : decode cX11_areAllIn 29 = .ok (.iload_n 3, 1) := by decide +kernel
theorem dX11_areAllIn_30 : decode cX11_areAllIn 30 = .ok (.iload 4, 2) := by decide +kernel
theorem dX11_areAllIn_32 : decode cX11_areAllIn 32 = .ok (.iload_n 2, 1) := by decide +kernel
theorem dX11_areAllIn_33 : decode cX11_areAllIn 33 = .ok (.invokevirtual 446, 3) := by decide +kernel
theorem dX11_areAllIn_36 : decode cX11_areAllIn 36 = .ok (.ifCond .eq 31, 3) := by decide +kernel
theorem dX11_areAllIn_39 : decode cX11_areAllIn 39 = .ok (.aload_n 0, 1) := by decide +kernel
theorem dX11_areAllIn_40 : decode cX11_areAllIn 40 = .ok (.getfield 137, 3) := by decide +kernel
theorem dX11_areAllIn_43 : decode cX11_areAllIn 43 = .ok (.sipush 128, 3) := by decide +kernel
theorem dX11_areAllIn_46 : decode cX11_areAllIn 46 = .ok (.iload_n 1, 1) := by decide +kernel
theorem dX11_areAllIn_47 : decode cX11_areAllIn 47 = .ok (.iconst 1, 1) := by decide +kernel
theorem dX11_areAllIn_48 : decode cX11_areAllIn 48 = .ok (.iload_n 3, 1) := by decide +kernel
theorem dX11_areAllIn_49 : decode cX11_areAllIn 49 = .ok (.ishl, 1) := by decide +kernel
theorem dX11_areAllIn_50 : decode cX11_areAllIn 50 = .ok (.iconst (-1), 1) := by decide +kernel
theorem dX11_areAllIn_51 : decode cX11_areAllIn 51 = .ok (.ixor, 1) := by decide +kernel
theorem dX11_areAllIn_52 : decode cX11_areAllIn 52 = .ok (.iand, 1) := by decide +kernel
theorem dX11_areAllIn_53 : decode cX11_areAllIn 53 = .ok (.imul, 1) := by decide +kernel
theorem dX11_areAllIn_54 : decode cX11_areAllIn 54 = .ok (.iload_n 2, 1) := by decide +kernel
theorem dX11_areAllIn_55 : decode cX11_areAllIn 55 = .ok (.iload 4, 2) := by decide +kernel
theorem dX11_areAllIn_57 : decode cX11_areAllIn 57 = .ok (.iconst (-1), 1) := by decide +kernel
theorem dX11_areAllIn_58 : decode cX11_areAllIn 58 = .ok (.ixor, 1) := by decide +kernel
theorem dX11_areAllIn_59 : decode cX11_areAllIn 59 = .ok (.iand, 1) := by decide +kernel
theorem dX11_areAllIn_60 : decode cX11_areAllIn 60 = .ok (.iadd, 1) := by decide +kernel
theorem dX11_areAllIn_61 : decode cX11_areAllIn 61 = .ok (.baload, 1) := by decide +kernel
theorem dX11_areAllIn_62 : decode cX11_areAllIn 62 = .ok (.ifCond .eq 5, 3) := by decide +kernel
theorem dX11_areAllIn_65 : decode cX11_areAllIn 65 = .ok (.iconst 1, 1) := by decide +kernel
theorem dX11_areAllIn_66 : decode cX11_areAllIn 66 = .ok (.ireturn, 1) := by decide +kernel
theorem dX11_areAllIn_67 : decode cX11_areAllIn 67 = .ok (.iinc 4 1, 3) := by decide +kernel
theorem dX11_areAllIn_70 : decode cX11_areAllIn 70 = .ok (.goto (-48), 3) := by decide +kernel
theorem dX11_areAllIn_73 : decode cX11_areAllIn 73 = .ok (.iconst 0, 1) := by decide +kernel
theorem dX11_areAllIn_74 : decode cX11_areAllIn 74 = .ok (.ireturn, 1) := by decide +kernel
theorem dX11_fewest_0 : decode cX11_fewest 0 = .ok (.iload_n 1, 1) := by decide +kernel
theorem dX11_fewest_1 : decode cX11_fewest 1 = .ok (.iconst 0, 1) := by decide +kernel
theorem dX11_fewest_2 : decode cX11_fewest 2 = .ok (.iconst 1, 1) := by decide +kernel
theorem dX11_fewest_3 : decode cX11_fewest 3 = .ok (.invokestatic 316, 3) := by decide +kernel
theorem dX11_fewest_6 : decode cX11_fewest 6 = .ok (.ifCond .ne 5, 3) := by decide +kernel
theorem dX11_fewest_9 : decode cX11_fewest 9 = .ok (.iconst (-1), 1) := by decide +kernel
theorem dX11_fewest_10 : decode cX11_fewest 10 = .ok (.ireturn, 1) := by decide +kernel
theorem dX11_fewest_11 : decode cX11_fewest 11 = .ok (.aload_n 0, 1) := by decide +kernel
theorem dX11_fewest_12 : decode cX11_fewest 12 = .ok (.invokevirtual 440, 3) := by decide +kernel
theorem dX11_fewest_15 : decode cX11_fewest 15 = .ok (.aload_n 0, 1) := by decide +kernel
theorem dX11_fewest_16 : decode cX11_fewest 16 = .ok (.invokevirtual 455, 3) := by decide +kernel
theorem dX11_fewest_19 : decode cX11_fewest 19 = .ok (.istore_n 2, 1) := by decide +kernel
theorem dX11_fewest_20 : decode cX11_fewest 20 = .ok (.bipush (-2), 2) := by decide +kernel
theorem dX11_fewest_22 : decode cX11_fewest 22 = .ok (.istore_n 3, 1) := by decide +kernel
theorem dX11_fewest_23 : decode cX11_fewest 23 = .ok (.iconst 0, 1) := by decide +kernel
theorem dX11_fewest_24 : decode cX11_fewest 24 = .ok (.istore 4, 2) := by decide +kernel
theorem dX11_fewest_26 : decode cX11_fewest 26 = .ok (.iload 4, 2) := by decide +kernel
theorem dX11_fewest_28 : decode cX11_fewest 28 = .ok (.iconst 1, 1) := by decide +kernel
theorem dX11_fewest_29 : decode cX11_fewest 29 = .ok (.aload_n 0, 1) := by decide +kernel
theorem dX11_fewest_30 : decode cX11_fewest 30 = .ok (.getfield 46, 3) := by decide +kernel
theorem dX11_fewest_33 : decode cX11_fewest 33 = .ok (.aload_n 0, 1) := by decide +kernel
theorem dX11_fewest_34 : decode cX11_fewest 34 = .ok (.getfield 236, 3) := by decide +kernel
theorem dX11_fewest_37 : decode cX11_fewest 37 = .ok (.iaload, 1) := by decide +kernel
theorem dX11_fewest_38 : decode cX11_fewest 38 = .ok (.ishl, 1) := by decide +kernel
theorem dX11_fewest_39 : decode cX11_fewest 39 = .ok (.if_icmp .ge 91, 3) := by decide +kernel
theorem dX11_fewest_42 : decode cX11_fewest 42 = .ok (.iconst 0, 1) := by decide +kernel
theorem dX11_fewest_43 : decode cX11_fewest 43 = .ok (.istore 5, 2) := by decide +kernel
theorem dX11_fewest_45 : decode cX11_fewest 45 = .ok (.iload 5, 2) := by decide +kernel
theorem dX11_fewest_47 : decode cX11_fewest 47 = .ok (.iconst 1, 1) := by decide +kernel
theorem dX11_fewest_48 : decode cX11_fewest 48 = .ok (.aload_n 0, 1) := by decide +kernel
theorem dX11_fewest_49 : decode cX11_fewest 49 = .ok (.getfield 55, 3) := by decide +kernel
theorem dX11_fewest_52 : decode cX11_fewest 52 = .ok (.aload_n 0, 1) := by decide +kernel
theorem dX11_fewest_53 : decode cX11_fewest 53 = .ok (.getfield 236, 3) := by decide +kernel
theorem dX11_fewest_56 : decode cX11_fewest 56 = .ok (.iaload, 1) := by decide +kernel
theorem dX11_fewest_57 : decode cX11_fewest 57 = .ok (.ishl, 1) := by decide +kernel
theorem dX11_fewest_58 : decode cX11_fewest 58 = .ok (.if_icmp .ge 31, 3) := by decide +kernel
theorem dX11_fewest_61 : decode cX11_fewest 61 = .ok (.aload_n 0, 1) := by decide +kernel
theorem dX11_fewest_62 : decode cX11_fewest 62 = .ok (.getfield 137, 3) := by decide +kernel
theorem dX11_fewest_65 : decode cX11_fewest 65 = .ok (.sipush 128, 3) := by decide +kernel
theorem dX11_fewest_68 : decode cX11_fewest 68 = .ok (.iload 4, 2) := by decide +kernel
theorem dX11_fewest_70 : decode cX11_fewest 70 = .ok (.imul, 1) := by decide +kernel
theorem dX11_fewest_71 : decode cX11_fewest 71 = .ok (.iload 5, 2) := by decide +kernel
theorem dX11_fewest_73 : decode cX11_fewest 73 = .ok (.iadd, 1) := by decide +kernel
theorem dX11_fewest_74 : decode cX11_fewest 74 = .ok (.aload_n 0, 1) := by decide +kernel
theorem dX11_fewest_75 : decode cX11_fewest 75 = .ok (.iload 4, 2) := by decide +kernel
theorem dX11_fewest_77 : decode cX11_fewest 77 = .ok (.iload 5, 2) := by decide +kernel
theorem dX11_fewest_79 : decode cX11_fewest 79 = .ok (.invokevirtual 461, 3) := by decide +kernel
theorem dX11_fewest_82 : decode cX11_fewest 82 = .ok (.bastore, 1) := by decide +kernel
theorem dX11_fewest_83 : decode cX11_fewest 83 = .ok (.iinc 5 1, 3) := by decide +kernel
theorem dX11_fewest_86 : decode cX11_fewest 86 = .ok (.goto (-41), 3) := by decide +kernel
theorem dX11_fewest_89 : decode cX11_fewest 89 = .ok (.aload_n 0, 1) := by decide +kernel
theorem dX11_fewest_90 : decode cX11_fewest 90 = .ok (.getfield 137, 3) := by decide +kernel
theorem dX11_fewest_93 : decode cX11_fewest 93 = .ok (.sipush 128, 3) := by decide +kernel
theorem dX11_fewest_96 : decode cX11_fewest 96 = .ok (.iload 4, 2) := by decide +kernel
theorem dX11_fewest_98 : decode cX11_fewest 98 = .ok (.imul, 1) := by decide +kernel
theorem dX11_fewest_99 : decode cX11_fewest 99 = .ok (.iload_n 2, 1) := by decide +kernel
theorem dX11_fewest_100 : decode cX11_fewest 100 = .ok (.iadd, 1) := by decide +kernel
theorem dX11_fewest_101 : decode cX11_fewest 101 = .ok (.baload, 1) := by decide +kernel
theorem dX11_fewest_102 : decode cX11_fewest 102 = .ok (.ifCond .eq 22, 3) := by decide +kernel
theorem dX11_fewest_105 : decode cX11_fewest 105 = .ok (.iload_n 3, 1) := by decide +kernel
theorem dX11_fewest_106 : decode cX11_fewest 106 = .ok (.ifCond .lt 15, 3) := by decide +kernel
theorem dX11_fewest_109 : decode cX11_fewest 109 = .ok (.iload 4, 2) := by decide +kernel
theorem dX11_fewest_111 : decode cX11_fewest 111 = .ok (.invokestatic 365, 3) := by decide +kernel
theorem dX11_fewest_114 : decode cX11_fewest 114 = .ok (.iload_n 3, 1) := by decide +kernel
theorem dX11_fewest_115 : decode cX11_fewest 115 = .ok (.invokestatic 365, 3) := by decide +kernel
theorem dX11_fewest_118 : decode cX11_fewest 118 = .ok (.if_icmp .ge 6, 3) := by decide +kernel
theorem dX11_fewest_121 : decode cX11_fewest 121 = .ok (.iload 4, 2) := by decide +kernel
theorem dX11_fewest_123 : decode cX11_fewest 123 = .ok (.istore_n 3, 1) := by decide +kernel
theorem dX11_fewest_124 : decode cX11_fewest 124 = .ok (.iinc 4 1, 3) := by decide +kernel
theorem dX11_fewest_127 : decode cX11_fewest 127 = .ok (.goto (-101), 3) := by decide +kernel
theorem dX11_fewest_130 : decode cX11_fewest 130 = .ok (.iload_n 3, 1) := by decide +kernel
theorem dX11_fewest_131 : decode cX11_fewest 131 = .ok (.ifCond .lt 8, 3) := by decide +kernel
theorem dX11_fewest_134 : decode cX11_fewest 134 = .ok (.iload_n 1, 1) := by decide +kernel
theorem dX11_fewest_135 : decode cX11_fewest 135 = .ok (.iconst 1, 1) := by decide +kernel
theorem dX11_fewest_136 : decode cX11_fewest 136 = .ok (.if_icmp .ne 7, 3) := by decide +kernel
theorem dX11_fewest_139 : decode cX11_fewest 139 = .ok (.iload_n 3, 1) := by decide +kernel
theorem dX11_fewest_140 : decode cX11_fewest 140 = .ok (.goto 7, 3) := by decide +kernel
theorem dX11_fewest_143 : decode cX11_fewest 143 = .ok (.iload_n 3, 1) := by decide +kernel
theorem dX11_fewest_144 : decode cX11_fewest 144 = .ok (.invokestatic 365, 3) := by decide +kernel
theorem dX11_fewest_147 : decode cX11_fewest 147 = .ok (.ireturn, 1) := by decide +kernel
theorem dX11_isCalm_0 : decode cX11_isCalm 0 = .ok (.iconst 0, 1) := by decide +kernel
theorem dX11_isCalm_1 : decode cX11_isCalm 1 = .ok (.istore_n 2, 1) := by decide +kernel
theorem dX11_isCalm_2 : decode cX11_isCalm 2 = .ok (.iload_n 2, 1) := by decide +kernel
theorem dX11_isCalm_3 : decode cX11_isCalm 3 = .ok (.aload_n 0, 1) := by decide +kernel
theorem dX11_isCalm_4 : decode cX11_isCalm 4 = .ok (.getfield 55, 3) := by decide +kernel
theorem dX11_isCalm_7 : decode cX11_isCalm 7 = .ok (.aload_n 0, 1) := by decide +kernel
theorem dX11_isCalm_8 : decode cX11_isCalm 8 = .ok (.getfield 236, 3) := by decide +kernel
theorem dX11_isCalm_11 : decode cX11_isCalm 11 = .ok (.iaload, 1) := by decide +kernel
theorem dX11_isCalm_12 : decode cX11_isCalm 12 = .ok (.if_icmp .ge 30, 3) := by decide +kernel
theorem dX11_isCalm_15 : decode cX11_isCalm 15 = .ok (.iload_n 1, 1) := by decide +kernel
theorem dX11_isCalm_16 : decode cX11_isCalm 16 = .ok (.iload_n 2, 1) := by decide +kernel
theorem dX11_isCalm_17 : decode cX11_isCalm 17 = .ok (.ishr, 1) := by decide +kernel
theorem dX11_isCalm_18 : decode cX11_isCalm 18 = .ok (.iconst 1, 1) := by decide +kernel
theorem dX11_isCalm_19 : decode cX11_isCalm 19 = .ok (.iand, 1) := by decide +kernel
theorem dX11_isCalm_20 : decode cX11_isCalm 20 = .ok (.iconst 1, 1) := by decide +kernel
theorem dX11_isCalm_21 : decode cX11_isCalm 21 = .ok (.if_icmp .ne 15, 3) := by decide +kernel
theorem dX11_isCalm_24 : decode cX11_isCalm 24 = .ok (.iload_n 1, 1) := by decide +kernel
theorem dX11_isCalm_25 : decode cX11_isCalm 25 = .ok (.aload_n 0, 1) := by decide +kernel
theorem dX11_isCalm_26 : decode cX11_isCalm 26 = .ok (.iload_n 2, 1) := by decide +kernel
theorem dX11_isCalm_27 : decode cX11_isCalm 27 = .ok (.invokevirtual 419, 3) := by decide +kernel
theorem dX11_isCalm_30 : decode cX11_isCalm 30 = .ok (.iand, 1) := by decide +kernel
theorem dX11_isCalm_31 : decode cX11_isCalm 31 = .ok (.ifCond .eq 5, 3) := by decide +kernel
theorem dX11_isCalm_34 : decode cX11_isCalm 34 = .ok (.iconst 0, 1) := by decide +kernel
theorem dX11_isCalm_35 : decode cX11_isCalm 35 = .ok (.ireturn, 1) := by decide +kernel
theorem dX11_isCalm_36 : decode cX11_isCalm 36 = .ok (.iinc 2 1, 3) := by decide +kernel
theorem dX11_isCalm_39 : decode cX11_isCalm 39 = .ok (.goto (-37), 3) := by decide +kernel
theorem dX11_isCalm_42 : decode cX11_isCalm 42 = .ok (.iconst 1, 1) := by decide +kernel
theorem dX11_isCalm_43 : decode cX11_isCalm 43 = .ok (.ireturn, 1) := by decide +kernel
theorem dX11_colours_0 : decode cX11_colours 0 = .ok (.aload_n 0, 1) := by decide +kernel
theorem dX11_colours_1 : decode cX11_colours 1 = .ok (.invokevirtual 326, 3) := by decide +kernel
theorem dX11_colours_4 : decode cX11_colours 4 = .ok (.aload_n 0, 1) := by decide +kernel
theorem dX11_colours_5 : decode cX11_colours 5 = .ok (.getfield 140, 3) := by decide +kernel
theorem dX11_colours_8 : decode cX11_colours 8 = .ok (.iconst 0, 1) := by decide +kernel
theorem dX11_colours_9 : decode cX11_colours 9 = .ok (.iconst 0, 1) := by decide +kernel
theorem dX11_colours_10 : decode cX11_colours 10 = .ok (.iastore, 1) := by decide +kernel
theorem dX11_colours_11 : decode cX11_colours 11 = .ok (.iconst 1, 1) := by decide +kernel
theorem dX11_colours_12 : decode cX11_colours 12 = .ok (.istore_n 1, 1) := by decide +kernel
theorem dX11_colours_13 : decode cX11_colours 13 = .ok (.iload_n 1, 1) := by decide +kernel
theorem dX11_colours_14 : decode cX11_colours 14 = .ok (.iconst 1, 1) := by decide +kernel
theorem dX11_colours_15 : decode cX11_colours 15 = .ok (.aload_n 0, 1) := by decide +kernel
theorem dX11_colours_16 : decode cX11_colours 16 = .ok (.getfield 55, 3) := by decide +kernel
theorem dX11_colours_19 : decode cX11_colours 19 = .ok (.aload_n 0, 1) := by decide +kernel
theorem dX11_colours_20 : decode cX11_colours 20 = .ok (.getfield 236, 3) := by decide +kernel
theorem dX11_colours_23 : decode cX11_colours 23 = .ok (.iaload, 1) := by decide +kernel
theorem dX11_colours_24 : decode cX11_colours 24 = .ok (.ishl, 1) := by decide +kernel
theorem dX11_colours_25 : decode cX11_colours 25 = .ok (.if_icmp .ge 85, 3) := by decide +kernel
theorem dX11_colours_28 : decode cX11_colours 28 = .ok (.aload_n 0, 1) := by decide +kernel
theorem dX11_colours_29 : decode cX11_colours 29 = .ok (.getfield 140, 3) := by decide +kernel
theorem dX11_colours_32 : decode cX11_colours 32 = .ok (.iload_n 1, 1) := by decide +kernel
theorem dX11_colours_33 : decode cX11_colours 33 = .ok (.bipush 7, 2) := by decide +kernel
theorem dX11_colours_35 : decode cX11_colours 35 = .ok (.iastore, 1) := by decide +kernel
theorem dX11_colours_36 : decode cX11_colours 36 = .ok (.iconst 1, 1) := by decide +kernel
theorem dX11_colours_37 : decode cX11_colours 37 = .ok (.istore_n 2, 1) := by decide +kernel
theorem dX11_colours_38 : decode cX11_colours 38 = .ok (.iload_n 2, 1) := by decide +kernel
theorem dX11_colours_39 : decode cX11_colours 39 = .ok (.iload_n 1, 1) := by decide +kernel
theorem dX11_colours_40 : decode cX11_colours 40 = .ok (.if_icmp .gt 64, 3) := by decide +kernel
theorem dX11_colours_43 : decode cX11_colours 43 = .ok (.iload_n 2, 1) := by decide +kernel
theorem dX11_colours_44 : decode cX11_colours 44 = .ok (.iload_n 1, 1) := by decide +kernel
theorem dX11_colours_45 : decode cX11_colours 45 = .ok (.invokestatic 443, 3) := by decide +kernel
theorem dX11_colours_48 : decode cX11_colours 48 = .ok (.ifCond .eq 50, 3) := by decide +kernel
theorem dX11_colours_51 : decode cX11_colours 51 = .ok (.aload_n 0, 1) := by decide +kernel
theorem dX11_colours_52 : decode cX11_colours 52 = .ok (.getfield 140, 3) := by decide +kernel
theorem dX11_colours_55 : decode cX11_colours 55 = .ok (.iload_n 1, 1) := by decide +kernel
theorem dX11_colours_56 : decode cX11_colours 56 = .ok (.iload_n 2, 1) := by decide +kernel
theorem dX11_colours_57 : decode cX11_colours 57 = .ok (.iconst (-1), 1) := by decide +kernel
theorem dX11_colours_58 : decode cX11_colours 58 = .ok (.ixor, 1) := by decide +kernel
theorem dX11_colours_59 : decode cX11_colours 59 = .ok (.iand, 1) := by decide +kernel
theorem dX11_colours_60 : decode cX11_colours 60 = .ok (.iaload, 1) := by decide +kernel
theorem dX11_colours_61 : decode cX11_colours 61 = .ok (.iconst 1, 1) := by decide +kernel
theorem dX11_colours_62 : decode cX11_colours 62 = .ok (.iadd, 1) := by decide +kernel
theorem dX11_colours_63 : decode cX11_colours 63 = .ok (.aload_n 0, 1) := by decide +kernel
theorem dX11_colours_64 : decode cX11_colours 64 = .ok (.getfield 140, 3) := by decide +kernel
theorem dX11_colours_67 : decode cX11_colours 67 = .ok (.iload_n 1, 1) := by decide +kernel
theorem dX11_colours_68 : decode cX11_colours 68 = .ok (.iaload, 1) := by decide +kernel
theorem dX11_colours_69 : decode cX11_colours 69 = .ok (.if_icmp .ge 29, 3) := by decide +kernel
theorem dX11_colours_72 : decode cX11_colours 72 = .ok (.aload_n 0, 1) := by decide +kernel
theorem dX11_colours_73 : decode cX11_colours 73 = .ok (.iload_n 2, 1) := by decide +kernel
theorem dX11_colours_74 : decode cX11_colours 74 = .ok (.invokevirtual 464, 3) := by decide +kernel
theorem dX11_colours_77 : decode cX11_colours 77 = .ok (.ifCond .eq 21, 3) := by decide +kernel
theorem dX11_colours_80 : decode cX11_colours 80 = .ok (.aload_n 0, 1) := by decide +kernel
theorem dX11_colours_81 : decode cX11_colours 81 = .ok (.getfield 140, 3) := by decide +kernel
theorem dX11_colours_84 : decode cX11_colours 84 = .ok (.iload_n 1, 1) := by decide +kernel
theorem dX11_colours_85 : decode cX11_colours 85 = .ok (.aload_n 0, 1) := by decide +kernel
theorem dX11_colours_86 : decode cX11_colours 86 = .ok (.getfield 140, 3) := by decide +kernel
theorem dX11_colours_89 : decode cX11_colours 89 = .ok (.iload_n 1, 1) := by decide +kernel
theorem dX11_colours_90 : decode cX11_colours 90 = .ok (.iload_n 2, 1) := by decide +kernel
theorem dX11_colours_91 : decode cX11_colours 91 = .ok (.iconst (-1), 1) := by decide +kernel
theorem dX11_colours_92 : decode cX11_colours 92 = .ok (.ixor, 1) := by decide +kernel
theorem dX11_colours_93 : decode cX11_colours 93 = .ok (.iand, 1) := by decide +kernel
theorem dX11_colours_94 : decode cX11_colours 94 = .ok (.iaload, 1) := by decide +kernel
theorem dX11_colours_95 : decode cX11_colours 95 = .ok (.iconst 1, 1) := by decide +kernel
theorem dX11_colours_96 : decode cX11_colours 96 = .ok (.iadd, 1) := by decide +kernel
theorem dX11_colours_97 : decode cX11_colours 97 = .ok (.iastore, 1) := by decide +kernel
theorem dX11_colours_98 : decode cX11_colours 98 = .ok (.iinc 2 1, 3) := by decide +kernel
theorem dX11_colours_101 : decode cX11_colours 101 = .ok (.goto (-63), 3) := by decide +kernel
theorem dX11_colours_104 : decode cX11_colours 104 = .ok (.iinc 1 1, 3) := by decide +kernel
theorem dX11_colours_107 : decode cX11_colours 107 = .ok (.goto (-94), 3) := by decide +kernel
theorem dX11_colours_110 : decode cX11_colours 110 = .ok (.aload_n 0, 1) := by decide +kernel
theorem dX11_colours_111 : decode cX11_colours 111 = .ok (.getfield 140, 3) := by decide +kernel
theorem dX11_colours_114 : decode cX11_colours 114 = .ok (.aload_n 0, 1) := by decide +kernel
theorem dX11_colours_115 : decode cX11_colours 115 = .ok (.invokevirtual 455, 3) := by decide +kernel
theorem dX11_colours_118 : decode cX11_colours 118 = .ok (.iaload, 1) := by decide +kernel
theorem dX11_colours_119 : decode cX11_colours 119 = .ok (.ireturn, 1) := by decide +kernel
theorem dX11_isTangle_0 : decode cX11_isTangle 0 = .ok (.iconst 0, 1) := by decide +kernel
theorem dX11_isTangle_1 : decode cX11_isTangle 1 = .ok (.istore_n 2, 1) := by decide +kernel
theorem dX11_isTangle_2 : decode cX11_isTangle 2 = .ok (.iload_n 2, 1) := by decide +kernel
theorem dX11_isTangle_3 : decode cX11_isTangle 3 = .ok (.aload_n 0, 1) := by decide +kernel
theorem dX11_isTangle_4 : decode cX11_isTangle 4 = .ok (.getfield 55, 3) := by decide +kernel
theorem dX11_isTangle_7 : decode cX11_isTangle 7 = .ok (.aload_n 0, 1) := by decide +kernel
theorem dX11_isTangle_8 : decode cX11_isTangle 8 = .ok (.getfield 236, 3) := by decide +kernel
theorem dX11_isTangle_11 : decode cX11_isTangle 11 = .ok (.iaload, 1) := by decide +kernel
theorem dX11_isTangle_12 : decode cX11_isTangle 12 = .ok (.if_icmp .ge 38, 3) := by decide +kernel
theorem dX11_isTangle_15 : decode cX11_isTangle 15 = .ok (.iload_n 1, 1) := by decide +kernel
theorem dX11_isTangle_16 : decode cX11_isTangle 16 = .ok (.iload_n 2, 1) := by decide +kernel
theorem dX11_isTangle_17 : decode cX11_isTangle 17 = .ok (.ishr, 1) := by decide +kernel
theorem dX11_isTangle_18 : decode cX11_isTangle 18 = .ok (.iconst 1, 1) := by decide +kernel
theorem dX11_isTangle_19 : decode cX11_isTangle 19 = .ok (.iand, 1) := by decide +kernel
theorem dX11_isTangle_20 : decode cX11_isTangle 20 = .ok (.iconst 1, 1) := by decide +kernel
theorem dX11_isTangle_21 : decode cX11_isTangle 21 = .ok (.if_icmp .ne 23, 3) := by decide +kernel
theorem dX11_isTangle_24 : decode cX11_isTangle 24 = .ok (.iload_n 1, 1) := by decide +kernel
theorem dX11_isTangle_25 : decode cX11_isTangle 25 = .ok (.iconst 1, 1) := by decide +kernel
theorem dX11_isTangle_26 : decode cX11_isTangle 26 = .ok (.iload_n 2, 1) := by decide +kernel
theorem dX11_isTangle_27 : decode cX11_isTangle 27 = .ok (.ishl, 1) := by decide +kernel
theorem dX11_isTangle_28 : decode cX11_isTangle 28 = .ok (.iconst (-1), 1) := by decide +kernel
theorem dX11_isTangle_29 : decode cX11_isTangle 29 = .ok (.ixor, 1) := by decide +kernel
theorem dX11_isTangle_30 : decode cX11_isTangle 30 = .ok (.iand, 1) := by decide +kernel
theorem dX11_isTangle_31 : decode cX11_isTangle 31 = .ok (.aload_n 0, 1) := by decide +kernel
theorem dX11_isTangle_32 : decode cX11_isTangle 32 = .ok (.iload_n 2, 1) := by decide +kernel
theorem dX11_isTangle_33 : decode cX11_isTangle 33 = .ok (.invokevirtual 419, 3) := by decide +kernel
theorem dX11_isTangle_36 : decode cX11_isTangle 36 = .ok (.invokestatic 443, 3) := by decide +kernel
theorem dX11_isTangle_39 : decode cX11_isTangle 39 = .ok (.ifCond .ne 5, 3) := by decide +kernel
theorem dX11_isTangle_42 : decode cX11_isTangle 42 = .ok (.iconst 0, 1) := by decide +kernel
theorem dX11_isTangle_43 : decode cX11_isTangle 43 = .ok (.ireturn, 1) := by decide +kernel
theorem dX11_isTangle_44 : decode cX11_isTangle 44 = .ok (.iinc 2 1, 3) := by decide +kernel
theorem dX11_isTangle_47 : decode cX11_isTangle 47 = .ok (.goto (-45), 3) := by decide +kernel
theorem dX11_isTangle_50 : decode cX11_isTangle 50 = .ok (.iconst 1, 1) := by decide +kernel
theorem dX11_isTangle_51 : decode cX11_isTangle 51 = .ok (.ireturn, 1) := by decide +kernel
theorem dX11_tangle_0 : decode cX11_tangle 0 = .ok (.iload_n 1, 1) := by decide +kernel
theorem dX11_tangle_1 : decode cX11_tangle 1 = .ok (.iconst 0, 1) := by decide +kernel
theorem dX11_tangle_2 : decode cX11_tangle 2 = .ok (.iconst 1, 1) := by decide +kernel
theorem dX11_tangle_3 : decode cX11_tangle 3 = .ok (.invokestatic 316, 3) := by decide +kernel
theorem dX11_tangle_6 : decode cX11_tangle 6 = .ok (.ifCond .ne 5, 3) := by decide +kernel
theorem dX11_tangle_9 : decode cX11_tangle 9 = .ok (.iconst (-1), 1) := by decide +kernel
theorem dX11_tangle_10 : decode cX11_tangle 10 = .ok (.ireturn, 1) := by decide +kernel
theorem dX11_tangle_11 : decode cX11_tangle 11 = .ok (.aload_n 0, 1) := by decide +kernel
theorem dX11_tangle_12 : decode cX11_tangle 12 = .ok (.invokevirtual 326, 3) := by decide +kernel
theorem dX11_tangle_15 : decode cX11_tangle 15 = .ok (.iconst 0, 1) := by decide +kernel
theorem dX11_tangle_16 : decode cX11_tangle 16 = .ok (.istore_n 2, 1) := by decide +kernel
theorem dX11_tangle_17 : decode cX11_tangle 17 = .ok (.aload_n 0, 1) := by decide +kernel
theorem dX11_tangle_18 : decode cX11_tangle 18 = .ok (.invokevirtual 455, 3) := by decide +kernel
theorem dX11_tangle_21 : decode cX11_tangle 21 = .ok (.istore_n 3, 1) := by decide +kernel
theorem dX11_tangle_22 : decode cX11_tangle 22 = .ok (.iconst 0, 1) := by decide +kernel
theorem dX11_tangle_23 : decode cX11_tangle 23 = .ok (.istore 4, 2) := by decide +kernel
theorem dX11_tangle_25 : decode cX11_tangle 25 = .ok (.iload 4, 2) := by decide +kernel
theorem dX11_tangle_27 : decode cX11_tangle 27 = .ok (.iload_n 3, 1) := by decide +kernel
theorem dX11_tangle_28 : decode cX11_tangle 28 = .ok (.if_icmp .gt 42, 3) := by decide +kernel
theorem dX11_tangle_31 : decode cX11_tangle 31 = .ok (.iload 4, 2) := by decide +kernel
theorem dX11_tangle_33 : decode cX11_tangle 33 = .ok (.iload_n 3, 1) := by decide +kernel
theorem dX11_tangle_34 : decode cX11_tangle 34 = .ok (.invokestatic 443, 3) := by decide +kernel
theorem dX11_tangle_37 : decode cX11_tangle 37 = .ok (.ifCond .eq 27, 3) := by decide +kernel
theorem dX11_tangle_40 : decode cX11_tangle 40 = .ok (.iload 4, 2) := by decide +kernel
theorem dX11_tangle_42 : decode cX11_tangle 42 = .ok (.invokestatic 365, 3) := by decide +kernel
theorem dX11_tangle_45 : decode cX11_tangle 45 = .ok (.iload_n 2, 1) := by decide +kernel
theorem dX11_tangle_46 : decode cX11_tangle 46 = .ok (.invokestatic 365, 3) := by decide +kernel
theorem dX11_tangle_49 : decode cX11_tangle 49 = .ok (.if_icmp .le 15, 3) := by decide +kernel
theorem dX11_tangle_52 : decode cX11_tangle 52 = .ok (.aload_n 0, 1) := by decide +kernel
theorem dX11_tangle_53 : decode cX11_tangle 53 = .ok (.iload 4, 2) := by decide +kernel
theorem dX11_tangle_55 : decode cX11_tangle 55 = .ok (.invokevirtual 467, 3) := by decide +kernel
theorem dX11_tangle_58 : decode cX11_tangle 58 = .ok (.ifCond .eq 6, 3) := by decide +kernel
theorem dX11_tangle_61 : decode cX11_tangle 61 = .ok (.iload 4, 2) := by decide +kernel
theorem dX11_tangle_63 : decode cX11_tangle 63 = .ok (.istore_n 2, 1) := by decide +kernel
theorem dX11_tangle_64 : decode cX11_tangle 64 = .ok (.iinc 4 1, 3) := by decide +kernel
theorem dX11_tangle_67 : decode cX11_tangle 67 = .ok (.goto (-42), 3) := by decide +kernel
theorem dX11_tangle_70 : decode cX11_tangle 70 = .ok (.iload_n 1, 1) := by decide +kernel
theorem dX11_tangle_71 : decode cX11_tangle 71 = .ok (.ifCond .ne 10, 3) := by decide +kernel
theorem dX11_tangle_74 : decode cX11_tangle 74 = .ok (.iload_n 2, 1) := by decide +kernel
theorem dX11_tangle_75 : decode cX11_tangle 75 = .ok (.invokestatic 365, 3) := by decide +kernel
theorem dX11_tangle_78 : decode cX11_tangle 78 = .ok (.goto 4, 3) := by decide +kernel
theorem dX11_tangle_81 : decode cX11_tangle 81 = .ok (.iload_n 2, 1) := by decide +kernel
theorem dX11_tangle_82 : decode cX11_tangle 82 = .ok (.ireturn, 1) := by decide +kernel
theorem dX11_rivals_0 : decode cX11_rivals 0 = .ok (.aload_n 0, 1) := by decide +kernel
theorem dX11_rivals_1 : decode cX11_rivals 1 = .ok (.iload_n 1, 1) := by decide +kernel
theorem dX11_rivals_2 : decode cX11_rivals 2 = .ok (.invokevirtual 410, 3) := by decide +kernel
theorem dX11_rivals_5 : decode cX11_rivals 5 = .ok (.ifCond .eq 11, 3) := by decide +kernel
theorem dX11_rivals_8 : decode cX11_rivals 8 = .ok (.aload_n 0, 1) := by decide +kernel
theorem dX11_rivals_9 : decode cX11_rivals 9 = .ok (.iload_n 1, 1) := by decide +kernel
theorem dX11_rivals_10 : decode cX11_rivals 10 = .ok (.invokevirtual 419, 3) := by decide +kernel
theorem dX11_rivals_13 : decode cX11_rivals 13 = .ok (.goto 4, 3) := by decide +kernel
theorem dX11_rivals_16 : decode cX11_rivals 16 = .ok (.iconst (-1), 1) := by decide +kernel
theorem dX11_rivals_17 : decode cX11_rivals 17 = .ok (.ireturn, 1) := by decide +kernel
theorem dX11_fitBits_0 : decode cX11_fitBits 0 = .ok (.iconst 0, 1) := by decide +kernel
theorem dX11_fitBits_1 : decode cX11_fitBits 1 = .ok (.istore_n 2, 1) := by decide +kernel
theorem dX11_fitBits_2 : decode cX11_fitBits 2 = .ok (.iconst 0, 1) := by decide +kernel
theorem dX11_fitBits_3 : decode cX11_fitBits 3 = .ok (.istore_n 3, 1) := by decide +kernel
theorem dX11_fitBits_4 : decode cX11_fitBits 4 = .ok (.iload_n 3, 1) := by decide +kernel
theorem dX11_fitBits_5 : decode cX11_fitBits 5 = .ok (.aload_n 0, 1) := by decide +kernel
theorem dX11_fitBits_6 : decode cX11_fitBits 6 = .ok (.getfield 46, 3) := by decide +kernel
theorem dX11_fitBits_9 : decode cX11_fitBits 9 = .ok (.aload_n 0, 1) := by decide +kernel
theorem dX11_fitBits_10 : decode cX11_fitBits 10 = .ok (.getfield 236, 3) := by decide +kernel
theorem dX11_fitBits_13 : decode cX11_fitBits 13 = .ok (.iaload, 1) := by decide +kernel
theorem dX11_fitBits_14 : decode cX11_fitBits 14 = .ok (.if_icmp .ge 24, 3) := by decide +kernel
theorem dX11_fitBits_17 : decode cX11_fitBits 17 = .ok (.aload_n 0, 1) := by decide +kernel
theorem dX11_fitBits_18 : decode cX11_fitBits 18 = .ok (.iload_n 1, 1) := by decide +kernel
theorem dX11_fitBits_19 : decode cX11_fitBits 19 = .ok (.iload_n 3, 1) := by decide +kernel
theorem dX11_fitBits_20 : decode cX11_fitBits 20 = .ok (.invokevirtual 416, 3) := by decide +kernel
theorem dX11_fitBits_23 : decode cX11_fitBits 23 = .ok (.ifCond .eq 9, 3) := by decide +kernel
theorem dX11_fitBits_26 : decode cX11_fitBits 26 = .ok (.iload_n 2, 1) := by decide +kernel
theorem dX11_fitBits_27 : decode cX11_fitBits 27 = .ok (.iconst 1, 1) := by decide +kernel
theorem dX11_fitBits_28 : decode cX11_fitBits 28 = .ok (.iload_n 3, 1) := by decide +kernel
theorem dX11_fitBits_29 : decode cX11_fitBits 29 = .ok (.ishl, 1) := by decide +kernel
theorem dX11_fitBits_30 : decode cX11_fitBits 30 = .ok (.ior, 1) := by decide +kernel
theorem dX11_fitBits_31 : decode cX11_fitBits 31 = .ok (.istore_n 2, 1) := by decide +kernel
theorem dX11_fitBits_32 : decode cX11_fitBits 32 = .ok (.iinc 3 1, 3) := by decide +kernel
theorem dX11_fitBits_35 : decode cX11_fitBits 35 = .ok (.goto (-31), 3) := by decide +kernel
theorem dX11_fitBits_38 : decode cX11_fitBits 38 = .ok (.iload_n 2, 1) := by decide +kernel
theorem dX11_fitBits_39 : decode cX11_fitBits 39 = .ok (.ireturn, 1) := by decide +kernel
theorem dX11_fitting_0 : decode cX11_fitting 0 = .ok (.aload_n 0, 1) := by decide +kernel
theorem dX11_fitting_1 : decode cX11_fitting 1 = .ok (.iload_n 1, 1) := by decide +kernel
theorem dX11_fitting_2 : decode cX11_fitting 2 = .ok (.invokevirtual 410, 3) := by decide +kernel
theorem dX11_fitting_5 : decode cX11_fitting 5 = .ok (.ifCond .ne 5, 3) := by decide +kernel
theorem dX11_fitting_8 : decode cX11_fitting 8 = .ok (.iconst (-1), 1) := by decide +kernel
theorem dX11_fitting_9 : decode cX11_fitting 9 = .ok (.ireturn, 1) := by decide +kernel
theorem dX11_fitting_10 : decode cX11_fitting 10 = .ok (.aload_n 0, 1) := by decide +kernel
theorem dX11_fitting_11 : decode cX11_fitting 11 = .ok (.invokevirtual 326, 3) := by decide +kernel
theorem dX11_fitting_14 : decode cX11_fitting 14 = .ok (.aload_n 0, 1) := by decide +kernel
theorem dX11_fitting_15 : decode cX11_fitting 15 = .ok (.iload_n 1, 1) := by decide +kernel
theorem dX11_fitting_16 : decode cX11_fitting 16 = .ok (.invokevirtual 470, 3) := by decide +kernel
theorem dX11_fitting_19 : decode cX11_fitting 19 = .ok (.ireturn, 1) := by decide +kernel
theorem dX11_row_0 : decode cX11_row 0 = .ok (.aload_n 0, 1) := by decide +kernel
theorem dX11_row_1 : decode cX11_row 1 = .ok (.iload_n 1, 1) := by decide +kernel
theorem dX11_row_2 : decode cX11_row 2 = .ok (.invokevirtual 404, 3) := by decide +kernel
theorem dX11_row_5 : decode cX11_row 5 = .ok (.ifCond .eq 7, 3) := by decide +kernel
theorem dX11_row_8 : decode cX11_row 8 = .ok (.iload_n 2, 1) := by decide +kernel
theorem dX11_row_9 : decode cX11_row 9 = .ok (.ifCond .ge 5, 3) := by decide +kernel
theorem dX11_row_12 : decode cX11_row 12 = .ok (.iconst (-1), 1) := by decide +kernel
theorem dX11_row_13 : decode cX11_row 13 = .ok (.ireturn, 1) := by decide +kernel
theorem dX11_row_14 : decode cX11_row 14 = .ok (.aload_n 0, 1) := by decide +kernel
theorem dX11_row_15 : decode cX11_row 15 = .ok (.invokevirtual 326, 3) := by decide +kernel
theorem dX11_row_18 : decode cX11_row 18 = .ok (.iconst 0, 1) := by decide +kernel
theorem dX11_row_19 : decode cX11_row 19 = .ok (.istore_n 3, 1) := by decide +kernel
theorem dX11_row_20 : decode cX11_row 20 = .ok (.iconst 0, 1) := by decide +kernel
theorem dX11_row_21 : decode cX11_row 21 = .ok (.istore 4, 2) := by decide +kernel
theorem dX11_row_23 : decode cX11_row 23 = .ok (.iload 4, 2) := by decide +kernel
theorem dX11_row_25 : decode cX11_row 25 = .ok (.bipush 24, 2) := by decide +kernel
theorem dX11_row_27 : decode cX11_row 27 = .ok (.if_icmp .ge 48, 3) := by decide +kernel
theorem dX11_row_30 : decode cX11_row 30 = .ok (.aload_n 0, 1) := by decide +kernel
theorem dX11_row_31 : decode cX11_row 31 = .ok (.iload_n 1, 1) := by decide +kernel
theorem dX11_row_32 : decode cX11_row 32 = .ok (.iload 4, 2) := by decide +kernel
theorem dX11_row_34 : decode cX11_row 34 = .ok (.invokevirtual 413, 3) := by decide +kernel
theorem dX11_row_37 : decode cX11_row 37 = .ok (.istore 5, 2) := by decide +kernel
theorem dX11_row_39 : decode cX11_row 39 = .ok (.iload 5, 2) := by decide +kernel
theorem dX11_row_41 : decode cX11_row 41 = .ok (.ifCond .lt 28, 3) := by decide +kernel
theorem dX11_row_44 : decode cX11_row 44 = .ok (.aload_n 0, 1) := by decide +kernel
theorem dX11_row_45 : decode cX11_row 45 = .ok (.iload 5, 2) := by decide +kernel
theorem dX11_row_47 : decode cX11_row 47 = .ok (.invokevirtual 333, 3) := by decide +kernel
theorem dX11_row_50 : decode cX11_row 50 = .ok (.iload 4, 2) := by decide +kernel
theorem dX11_row_52 : decode cX11_row 52 = .ok (.if_icmp .eq 6, 3) := by decide +kernel
theorem dX11_row_55 : decode cX11_row 55 = .ok (.goto 14, 3) := by decide +kernel
theorem dX11_row_58 : decode cX11_row 58 = .ok (.iload_n 3, 1) := by decide +kernel
theorem dX11_row_59 : decode cX11_row 59 = .ok (.iload_n 2, 1) := by decide +kernel
theorem dX11_row_60 : decode cX11_row 60 = .ok (.if_icmp .ne 6, 3) := by decide +kernel
theorem dX11_row_63 : decode cX11_row 63 = .ok (.iload 5, 2) := by decide +kernel
theorem dX11_row_65 : decode cX11_row 65 = .ok (.ireturn, 1) := by decide +kernel
theorem dX11_row_66 : decode cX11_row 66 = .ok (.iinc 3 1, 3) := by decide +kernel
theorem dX11_row_69 : decode cX11_row 69 = .ok (.iinc 4 1, 3) := by decide +kernel
theorem dX11_row_72 : decode cX11_row 72 = .ok (.goto (-49), 3) := by decide +kernel
theorem dX11_row_75 : decode cX11_row 75 = .ok (.iconst (-1), 1) := by decide +kernel
theorem dX11_row_76 : decode cX11_row 76 = .ok (.ireturn, 1) := by decide +kernel
theorem dX11_change_0 : decode cX11_change 0 = .ok (.aload_n 0, 1) := by decide +kernel
theorem dX11_change_1 : decode cX11_change 1 = .ok (.iload_n 1, 1) := by decide +kernel
theorem dX11_change_2 : decode cX11_change 2 = .ok (.invokevirtual 410, 3) := by decide +kernel
theorem dX11_change_5 : decode cX11_change 5 = .ok (.ifCond .eq 44, 3) := by decide +kernel
theorem dX11_change_8 : decode cX11_change 8 = .ok (.aload_n 0, 1) := by decide +kernel
theorem dX11_change_9 : decode cX11_change 9 = .ok (.iload_n 2, 1) := by decide +kernel
theorem dX11_change_10 : decode cX11_change 10 = .ok (.invokevirtual 410, 3) := by decide +kernel
theorem dX11_change_13 : decode cX11_change 13 = .ok (.ifCond .eq 36, 3) := by decide +kernel
theorem dX11_change_16 : decode cX11_change 16 = .ok (.aload_n 0, 1) := by decide +kernel
theorem dX11_change_17 : decode cX11_change 17 = .ok (.getfield 116, 3) := by decide +kernel
theorem dX11_change_20 : decode cX11_change 20 = .ok (.iload_n 1, 1) := by decide +kernel
theorem dX11_change_21 : decode cX11_change 21 = .ok (.iaload, 1) := by decide +kernel
theorem dX11_change_22 : decode cX11_change 22 = .ok (.ifCond .lt 27, 3) := by decide +kernel
theorem dX11_change_25 : decode cX11_change 25 = .ok (.aload_n 0, 1) := by decide +kernel
theorem dX11_change_26 : decode cX11_change 26 = .ok (.getfield 116, 3) := by decide +kernel
theorem dX11_change_29 : decode cX11_change 29 = .ok (.iload_n 2, 1) := by decide +kernel
theorem dX11_change_30 : decode cX11_change 30 = .ok (.iaload, 1) := by decide +kernel
theorem dX11_change_31 : decode cX11_change 31 = .ok (.ifCond .lt 18, 3) := by decide +kernel
theorem dX11_change_34 : decode cX11_change 34 = .ok (.aload_n 0, 1) := by decide +kernel
theorem dX11_change_35 : decode cX11_change 35 = .ok (.getfield 116, 3) := by decide +kernel
theorem dX11_change_38 : decode cX11_change 38 = .ok (.iload_n 1, 1) := by decide +kernel
theorem dX11_change_39 : decode cX11_change 39 = .ok (.iaload, 1) := by decide +kernel
theorem dX11_change_40 : decode cX11_change 40 = .ok (.aload_n 0, 1) := by decide +kernel
theorem dX11_change_41 : decode cX11_change 41 = .ok (.getfield 116, 3) := by decide +kernel
theorem dX11_change_44 : decode cX11_change 44 = .ok (.iload_n 2, 1) := by decide +kernel
theorem dX11_change_45 : decode cX11_change 45 = .ok (.iaload, 1) := by decide +kernel
theorem dX11_change_46 : decode cX11_change 46 = .ok (.if_icmp .ne 5, 3) := by decide +kernel
theorem dX11_change_49 : decode cX11_change 49 = .ok (.iconst (-1), 1) := by decide +kernel
theorem dX11_change_50 : decode cX11_change 50 = .ok (.ireturn, 1) := by decide +kernel
theorem dX11_change_51 : decode cX11_change 51 = .ok (.aload_n 0, 1) := by decide +kernel
theorem dX11_change_52 : decode cX11_change 52 = .ok (.invokevirtual 326, 3) := by decide +kernel
theorem dX11_change_55 : decode cX11_change 55 = .ok (.aload_n 0, 1) := by decide +kernel
theorem dX11_change_56 : decode cX11_change 56 = .ok (.getfield 119, 3) := by decide +kernel
theorem dX11_change_59 : decode cX11_change 59 = .ok (.iload_n 1, 1) := by decide +kernel
theorem dX11_change_60 : decode cX11_change 60 = .ok (.bipush (-2), 2) := by decide +kernel
theorem dX11_change_62 : decode cX11_change 62 = .ok (.iastore, 1) := by decide +kernel
theorem dX11_change_63 : decode cX11_change 63 = .ok (.aload_n 0, 1) := by decide +kernel
theorem dX11_change_64 : decode cX11_change 64 = .ok (.getfield 119, 3) := by decide +kernel
theorem dX11_change_67 : decode cX11_change 67 = .ok (.iload_n 2, 1) := by decide +kernel
theorem dX11_change_68 : decode cX11_change 68 = .ok (.bipush (-2), 2) := by decide +kernel
theorem dX11_change_70 : decode cX11_change 70 = .ok (.iastore, 1) := by decide +kernel
theorem dX11_change_71 : decode cX11_change 71 = .ok (.aload_n 0, 1) := by decide +kernel
theorem dX11_change_72 : decode cX11_change 72 = .ok (.iload_n 1, 1) := by decide +kernel
theorem dX11_change_73 : decode cX11_change 73 = .ok (.aload_n 0, 1) := by decide +kernel
theorem dX11_change_74 : decode cX11_change 74 = .ok (.getfield 116, 3) := by decide +kernel
theorem dX11_change_77 : decode cX11_change 77 = .ok (.iload_n 2, 1) := by decide +kernel
theorem dX11_change_78 : decode cX11_change 78 = .ok (.iaload, 1) := by decide +kernel
theorem dX11_change_79 : decode cX11_change 79 = .ok (.invokevirtual 422, 3) := by decide +kernel
theorem dX11_change_82 : decode cX11_change 82 = .ok (.ifCond .eq 21, 3) := by decide +kernel
theorem dX11_change_85 : decode cX11_change 85 = .ok (.aload_n 0, 1) := by decide +kernel
theorem dX11_change_86 : decode cX11_change 86 = .ok (.iload_n 2, 1) := by decide +kernel
theorem dX11_change_87 : decode cX11_change 87 = .ok (.aload_n 0, 1) := by decide +kernel
theorem dX11_change_88 : decode cX11_change 88 = .ok (.getfield 116, 3) := by decide +kernel
theorem dX11_change_91 : decode cX11_change 91 = .ok (.iload_n 1, 1) := by decide +kernel
theorem dX11_change_92 : decode cX11_change 92 = .ok (.iaload, 1) := by decide +kernel
theorem dX11_change_93 : decode cX11_change 93 = .ok (.invokevirtual 422, 3) := by decide +kernel
theorem dX11_change_96 : decode cX11_change 96 = .ok (.ifCond .eq 7, 3) := by decide +kernel
theorem dX11_change_99 : decode cX11_change 99 = .ok (.iconst 1, 1) := by decide +kernel
theorem dX11_change_100 : decode cX11_change 100 = .ok (.goto 4, 3) := by decide +kernel
theorem dX11_change_103 : decode cX11_change 103 = .ok (.iconst 0, 1) := by decide +kernel
theorem dX11_change_104 : decode cX11_change 104 = .ok (.ireturn, 1) := by decide +kernel
theorem dX11_room_0 : decode cX11_room 0 = .ok (.aload_n 0, 1) := by decide +kernel
theorem dX11_room_1 : decode cX11_room 1 = .ok (.iload_n 1, 1) := by decide +kernel
theorem dX11_room_2 : decode cX11_room 2 = .ok (.invokevirtual 410, 3) := by decide +kernel
theorem dX11_room_5 : decode cX11_room 5 = .ok (.ifCond .ne 5, 3) := by decide +kernel
theorem dX11_room_8 : decode cX11_room 8 = .ok (.iconst (-1), 1) := by decide +kernel
theorem dX11_room_9 : decode cX11_room 9 = .ok (.ireturn, 1) := by decide +kernel
theorem dX11_room_10 : decode cX11_room 10 = .ok (.aload_n 0, 1) := by decide +kernel
theorem dX11_room_11 : decode cX11_room 11 = .ok (.invokevirtual 326, 3) := by decide +kernel
theorem dX11_room_14 : decode cX11_room 14 = .ok (.aload_n 0, 1) := by decide +kernel
theorem dX11_room_15 : decode cX11_room 15 = .ok (.getfield 119, 3) := by decide +kernel
theorem dX11_room_18 : decode cX11_room 18 = .ok (.iload_n 1, 1) := by decide +kernel
theorem dX11_room_19 : decode cX11_room 19 = .ok (.bipush (-2), 2) := by decide +kernel
theorem dX11_room_21 : decode cX11_room 21 = .ok (.iastore, 1) := by decide +kernel
theorem dX11_room_22 : decode cX11_room 22 = .ok (.iconst 0, 1) := by decide +kernel
theorem dX11_room_23 : decode cX11_room 23 = .ok (.istore_n 2, 1) := by decide +kernel
theorem dX11_room_24 : decode cX11_room 24 = .ok (.iconst 0, 1) := by decide +kernel
theorem dX11_room_25 : decode cX11_room 25 = .ok (.istore_n 3, 1) := by decide +kernel
theorem dX11_room_26 : decode cX11_room 26 = .ok (.iload_n 3, 1) := by decide +kernel
theorem dX11_room_27 : decode cX11_room 27 = .ok (.aload_n 0, 1) := by decide +kernel
theorem dX11_room_28 : decode cX11_room 28 = .ok (.getfield 46, 3) := by decide +kernel
theorem dX11_room_31 : decode cX11_room 31 = .ok (.aload_n 0, 1) := by decide +kernel
theorem dX11_room_32 : decode cX11_room 32 = .ok (.getfield 236, 3) := by decide +kernel
theorem dX11_room_35 : decode cX11_room 35 = .ok (.iaload, 1) := by decide +kernel
theorem dX11_room_36 : decode cX11_room 36 = .ok (.if_icmp .ge 24, 3) := by decide +kernel
theorem dX11_room_39 : decode cX11_room 39 = .ok (.aload_n 0, 1) := by decide +kernel
theorem dX11_room_40 : decode cX11_room 40 = .ok (.iload_n 1, 1) := by decide +kernel
theorem dX11_room_41 : decode cX11_room 41 = .ok (.iload_n 3, 1) := by decide +kernel
theorem dX11_room_42 : decode cX11_room 42 = .ok (.invokevirtual 422, 3) := by decide +kernel
theorem dX11_room_45 : decode cX11_room 45 = .ok (.ifCond .eq 9, 3) := by decide +kernel
theorem dX11_room_48 : decode cX11_room 48 = .ok (.iload_n 2, 1) := by decide +kernel
theorem dX11_room_49 : decode cX11_room 49 = .ok (.iconst 1, 1) := by decide +kernel
theorem dX11_room_50 : decode cX11_room 50 = .ok (.iload_n 3, 1) := by decide +kernel
theorem dX11_room_51 : decode cX11_room 51 = .ok (.ishl, 1) := by decide +kernel
theorem dX11_room_52 : decode cX11_room 52 = .ok (.ior, 1) := by decide +kernel
theorem dX11_room_53 : decode cX11_room 53 = .ok (.istore_n 2, 1) := by decide +kernel
theorem dX11_room_54 : decode cX11_room 54 = .ok (.iinc 3 1, 3) := by decide +kernel
theorem dX11_room_57 : decode cX11_room 57 = .ok (.goto (-31), 3) := by decide +kernel
theorem dX11_room_60 : decode cX11_room 60 = .ok (.iload_n 2, 1) := by decide +kernel
theorem dX11_room_61 : decode cX11_room 61 = .ok (.ireturn, 1) := by decide +kernel
theorem dX11_payer_0 : decode cX11_payer 0 = .ok (.iload_n 1, 1) := by decide +kernel
theorem dX11_payer_1 : decode cX11_payer 1 = .ok (.iconst 0, 1) := by decide +kernel
theorem dX11_payer_2 : decode cX11_payer 2 = .ok (.iconst 1, 1) := by decide +kernel
theorem dX11_payer_3 : decode cX11_payer 3 = .ok (.invokestatic 316, 3) := by decide +kernel
theorem dX11_payer_6 : decode cX11_payer 6 = .ok (.ifCond .ne 5, 3) := by decide +kernel
theorem dX11_payer_9 : decode cX11_payer 9 = .ok (.iconst (-1), 1) := by decide +kernel
theorem dX11_payer_10 : decode cX11_payer 10 = .ok (.ireturn, 1) := by decide +kernel
theorem dX11_payer_11 : decode cX11_payer 11 = .ok (.aload_n 0, 1) := by decide +kernel
theorem dX11_payer_12 : decode cX11_payer 12 = .ok (.invokevirtual 326, 3) := by decide +kernel
theorem dX11_payer_15 : decode cX11_payer 15 = .ok (.bipush (-2), 2) := by decide +kernel
theorem dX11_payer_17 : decode cX11_payer 17 = .ok (.istore_n 2, 1) := by decide +kernel
theorem dX11_payer_18 : decode cX11_payer 18 = .ok (.iconst 0, 1) := by decide +kernel
theorem dX11_payer_19 : decode cX11_payer 19 = .ok (.istore_n 3, 1) := by decide +kernel
theorem dX11_payer_20 : decode cX11_payer 20 = .ok (.iload_n 3, 1) := by decide +kernel
theorem dX11_payer_21 : decode cX11_payer 21 = .ok (.aload_n 0, 1) := by decide +kernel
theorem dX11_payer_22 : decode cX11_payer 22 = .ok (.getfield 55, 3) := by decide +kernel
theorem dX11_payer_25 : decode cX11_payer 25 = .ok (.aload_n 0, 1) := by decide +kernel
theorem dX11_payer_26 : decode cX11_payer 26 = .ok (.getfield 236, 3) := by decide +kernel
theorem dX11_payer_29 : decode cX11_payer 29 = .ok (.iaload, 1) := by decide +kernel
theorem dX11_payer_30 : decode cX11_payer 30 = .ok (.if_icmp .ge 37, 3) := by decide +kernel
theorem dX11_payer_33 : decode cX11_payer 33 = .ok (.aload_n 0, 1) := by decide +kernel
theorem dX11_payer_34 : decode cX11_payer 34 = .ok (.getfield 119, 3) := by decide +kernel
theorem dX11_payer_37 : decode cX11_payer 37 = .ok (.iload_n 3, 1) := by decide +kernel
theorem dX11_payer_38 : decode cX11_payer 38 = .ok (.iaload, 1) := by decide +kernel
theorem dX11_payer_39 : decode cX11_payer 39 = .ok (.ifCond .lt 22, 3) := by decide +kernel
theorem dX11_payer_42 : decode cX11_payer 42 = .ok (.iload_n 2, 1) := by decide +kernel
theorem dX11_payer_43 : decode cX11_payer 43 = .ok (.ifCond .lt 16, 3) := by decide +kernel
theorem dX11_payer_46 : decode cX11_payer 46 = .ok (.aload_n 0, 1) := by decide +kernel
theorem dX11_payer_47 : decode cX11_payer 47 = .ok (.iload_n 3, 1) := by decide +kernel
theorem dX11_payer_48 : decode cX11_payer 48 = .ok (.invokevirtual 380, 3) := by decide +kernel
theorem dX11_payer_51 : decode cX11_payer 51 = .ok (.aload_n 0, 1) := by decide +kernel
theorem dX11_payer_52 : decode cX11_payer 52 = .ok (.iload_n 2, 1) := by decide +kernel
theorem dX11_payer_53 : decode cX11_payer 53 = .ok (.invokevirtual 380, 3) := by decide +kernel
theorem dX11_payer_56 : decode cX11_payer 56 = .ok (.if_icmp .le 5, 3) := by decide +kernel
theorem dX11_payer_59 : decode cX11_payer 59 = .ok (.iload_n 3, 1) := by decide +kernel
theorem dX11_payer_60 : decode cX11_payer 60 = .ok (.istore_n 2, 1) := by decide +kernel
theorem dX11_payer_61 : decode cX11_payer 61 = .ok (.iinc 3 1, 3) := by decide +kernel
theorem dX11_payer_64 : decode cX11_payer 64 = .ok (.goto (-44), 3) := by decide +kernel
theorem dX11_payer_67 : decode cX11_payer 67 = .ok (.iload_n 2, 1) := by decide +kernel
theorem dX11_payer_68 : decode cX11_payer 68 = .ok (.ifCond .lt 7, 3) := by decide +kernel
theorem dX11_payer_71 : decode cX11_payer 71 = .ok (.iload_n 1, 1) := by decide +kernel
theorem dX11_payer_72 : decode cX11_payer 72 = .ok (.ifCond .ne 7, 3) := by decide +kernel
theorem dX11_payer_75 : decode cX11_payer 75 = .ok (.iload_n 2, 1) := by decide +kernel
theorem dX11_payer_76 : decode cX11_payer 76 = .ok (.goto 8, 3) := by decide +kernel
theorem dX11_payer_79 : decode cX11_payer 79 = .ok (.aload_n 0, 1) := by decide +kernel
theorem dX11_payer_80 : decode cX11_payer 80 = .ok (.iload_n 2, 1) := by decide +kernel
theorem dX11_payer_81 : decode cX11_payer 81 = .ok (.invokevirtual 380, 3) := by decide +kernel
theorem dX11_payer_84 : decode cX11_payer 84 = .ok (.ireturn, 1) := by decide +kernel
theorem dX11_idle_0 : decode cX11_idle 0 = .ok (.aload_n 0, 1) := by decide +kernel
theorem dX11_idle_1 : decode cX11_idle 1 = .ok (.invokevirtual 326, 3) := by decide +kernel
theorem dX11_idle_4 : decode cX11_idle 4 = .ok (.iconst 0, 1) := by decide +kernel
theorem dX11_idle_5 : decode cX11_idle 5 = .ok (.istore_n 1, 1) := by decide +kernel
theorem dX11_idle_6 : decode cX11_idle 6 = .ok (.iconst 0, 1) := by decide +kernel
theorem dX11_idle_7 : decode cX11_idle 7 = .ok (.istore_n 2, 1) := by decide +kernel
theorem dX11_idle_8 : decode cX11_idle 8 = .ok (.iload_n 2, 1) := by decide +kernel
theorem dX11_idle_9 : decode cX11_idle 9 = .ok (.aload_n 0, 1) := by decide +kernel
theorem dX11_idle_10 : decode cX11_idle 10 = .ok (.getfield 46, 3) := by decide +kernel
theorem dX11_idle_13 : decode cX11_idle 13 = .ok (.aload_n 0, 1) := by decide +kernel
theorem dX11_idle_14 : decode cX11_idle 14 = .ok (.getfield 236, 3) := by decide +kernel
theorem dX11_idle_17 : decode cX11_idle 17 = .ok (.iaload, 1) := by decide +kernel
theorem dX11_idle_18 : decode cX11_idle 18 = .ok (.if_icmp .ge 43, 3) := by decide +kernel
theorem dX11_idle_21 : decode cX11_idle 21 = .ok (.aload_n 0, 1) := by decide +kernel
theorem dX11_idle_22 : decode cX11_idle 22 = .ok (.getfield 119, 3) := by decide +kernel
theorem dX11_idle_25 : decode cX11_idle 25 = .ok (.bipush 25, 2) := by decide +kernel
theorem dX11_idle_27 : decode cX11_idle 27 = .ok (.iload_n 2, 1) := by decide +kernel
theorem dX11_idle_28 : decode cX11_idle 28 = .ok (.iadd, 1) := by decide +kernel
theorem dX11_idle_29 : decode cX11_idle 29 = .ok (.iaload, 1) := by decide +kernel
theorem dX11_idle_30 : decode cX11_idle 30 = .ok (.ifCond .ne 25, 3) := by decide +kernel
theorem dX11_idle_33 : decode cX11_idle 33 = .ok (.iload_n 1, 1) := by decide +kernel
theorem dX11_idle_34 : decode cX11_idle 34 = .ok (.aload_n 0, 1) := by decide +kernel
theorem dX11_idle_35 : decode cX11_idle 35 = .ok (.getfield 49, 3) := by decide +kernel
theorem dX11_idle_38 : decode cX11_idle 38 = .ok (.iconst 4, 1) := by decide +kernel
theorem dX11_idle_39 : decode cX11_idle 39 = .ok (.aload_n 0, 1) := by decide +kernel
theorem dX11_idle_40 : decode cX11_idle 40 = .ok (.getfield 236, 3) := by decide +kernel
theorem dX11_idle_43 : decode cX11_idle 43 = .ok (.imul, 1) := by decide +kernel
theorem dX11_idle_44 : decode cX11_idle 44 = .ok (.iload_n 2, 1) := by decide +kernel
theorem dX11_idle_45 : decode cX11_idle 45 = .ok (.iadd, 1) := by decide +kernel
theorem dX11_idle_46 : decode cX11_idle 46 = .ok (.iaload, 1) := by decide +kernel
theorem dX11_idle_47 : decode cX11_idle 47 = .ok (.aload_n 0, 1) := by decide +kernel
theorem dX11_idle_48 : decode cX11_idle 48 = .ok (.iload_n 2, 1) := by decide +kernel
theorem dX11_idle_49 : decode cX11_idle 49 = .ok (.invokevirtual 359, 3) := by decide +kernel
theorem dX11_idle_52 : decode cX11_idle 52 = .ok (.isub, 1) := by decide +kernel
theorem dX11_idle_53 : decode cX11_idle 53 = .ok (.iadd, 1) := by decide +kernel
theorem dX11_idle_54 : decode cX11_idle 54 = .ok (.istore_n 1, 1) := by decide +kernel
theorem dX11_idle_55 : decode cX11_idle 55 = .ok (.iinc 2 1, 3) := by decide +kernel
theorem dX11_idle_58 : decode cX11_idle 58 = .ok (.goto (-50), 3) := by decide +kernel
theorem dX11_idle_61 : decode cX11_idle 61 = .ok (.iload_n 1, 1) := by decide +kernel
theorem dX11_idle_62 : decode cX11_idle 62 = .ok (.ireturn, 1) := by decide +kernel
theorem dX11_gap_0 : decode cX11_gap 0 = .ok (.aload_n 0, 1) := by decide +kernel
theorem dX11_gap_1 : decode cX11_gap 1 = .ok (.iload_n 1, 1) := by decide +kernel
theorem dX11_gap_2 : decode cX11_gap 2 = .ok (.invokevirtual 404, 3) := by decide +kernel
theorem dX11_gap_5 : decode cX11_gap 5 = .ok (.ifCond .eq 12, 3) := by decide +kernel
theorem dX11_gap_8 : decode cX11_gap 8 = .ok (.iload_n 2, 1) := by decide +kernel
theorem dX11_gap_9 : decode cX11_gap 9 = .ok (.iconst 0, 1) := by decide +kernel
theorem dX11_gap_10 : decode cX11_gap 10 = .ok (.iconst 1, 1) := by decide +kernel
theorem dX11_gap_11 : decode cX11_gap 11 = .ok (.invokestatic 316, 3) := by decide +kernel
theorem dX11_gap_14 : decode cX11_gap 14 = .ok (.ifCond .ne 5, 3) := by decide +kernel
theorem dX11_gap_17 : decode cX11_gap 17 = .ok (.iconst (-1), 1) := by decide +kernel
theorem dX11_gap_18 : decode cX11_gap 18 = .ok (.ireturn, 1) := by decide +kernel
theorem dX11_gap_19 : decode cX11_gap 19 = .ok (.aload_n 0, 1) := by decide +kernel
theorem dX11_gap_20 : decode cX11_gap 20 = .ok (.invokevirtual 326, 3) := by decide +kernel
theorem dX11_gap_23 : decode cX11_gap 23 = .ok (.bipush (-2), 2) := by decide +kernel
theorem dX11_gap_25 : decode cX11_gap 25 = .ok (.istore_n 3, 1) := by decide +kernel
theorem dX11_gap_26 : decode cX11_gap 26 = .ok (.iconst 0, 1) := by decide +kernel
theorem dX11_gap_27 : decode cX11_gap 27 = .ok (.istore 4, 2) := by decide +kernel
theorem dX11_gap_29 : decode cX11_gap 29 = .ok (.iconst 0, 1) := by decide +kernel
theorem dX11_gap_30 : decode cX11_gap 30 = .ok (.istore 5, 2) := by decide +kernel
theorem dX11_gap_32 : decode cX11_gap 32 = .ok (.iconst 0, 1) := by decide +kernel
theorem dX11_gap_33 : decode cX11_gap 33 = .ok (.istore 6, 2) := by decide +kernel
theorem dX11_gap_35 : decode cX11_gap 35 = .ok (.iload 6, 2) := by decide +kernel
theorem dX11_gap_37 : decode cX11_gap 37 = .ok (.aload_n 0, 1) := by decide +kernel
theorem dX11_gap_38 : decode cX11_gap 38 = .ok (.getfield 49, 3) := by decide +kernel
theorem dX11_gap_41 : decode cX11_gap 41 = .ok (.iconst 4, 1) := by decide +kernel
theorem dX11_gap_42 : decode cX11_gap 42 = .ok (.aload_n 0, 1) := by decide +kernel
theorem dX11_gap_43 : decode cX11_gap 43 = .ok (.getfield 236, 3) := by decide +kernel
theorem dX11_gap_46 : decode cX11_gap 46 = .ok (.imul, 1) := by decide +kernel
theorem dX11_gap_47 : decode cX11_gap 47 = .ok (.iload_n 1, 1) := by decide +kernel
theorem dX11_gap_48 : decode cX11_gap 48 = .ok (.iadd, 1) := by decide +kernel
theorem dX11_gap_49 : decode cX11_gap 49 = .ok (.iaload, 1) := by decide +kernel
theorem dX11_gap_50 : decode cX11_gap 50 = .ok (.if_icmp .ge 51, 3) := by decide +kernel
theorem dX11_gap_53 : decode cX11_gap 53 = .ok (.aload_n 0, 1) := by decide +kernel
theorem dX11_gap_54 : decode cX11_gap 54 = .ok (.iload_n 1, 1) := by decide +kernel
theorem dX11_gap_55 : decode cX11_gap 55 = .ok (.iload 6, 2) := by decide +kernel
theorem dX11_gap_57 : decode cX11_gap 57 = .ok (.invokevirtual 413, 3) := by decide +kernel
theorem dX11_gap_60 : decode cX11_gap 60 = .ok (.ifCond .lt 7, 3) := by decide +kernel
theorem dX11_gap_63 : decode cX11_gap 63 = .ok (.iconst 0, 1) := by decide +kernel
theorem dX11_gap_64 : decode cX11_gap 64 = .ok (.goto 7, 3) := by decide +kernel
theorem dX11_gap_67 : decode cX11_gap 67 = .ok (.iload 5, 2) := by decide +kernel
theorem dX11_gap_69 : decode cX11_gap 69 = .ok (.iconst 1, 1) := by decide +kernel
theorem dX11_gap_70 : decode cX11_gap 70 = .ok (.iadd, 1) := by decide +kernel
theorem dX11_gap_71 : decode cX11_gap 71 = .ok (.istore 5, 2) := by decide +kernel
theorem dX11_gap_73 : decode cX11_gap 73 = .ok (.iload 5, 2) := by decide +kernel
theorem dX11_gap_75 : decode cX11_gap 75 = .ok (.iload 4, 2) := by decide +kernel
theorem dX11_gap_77 : decode cX11_gap 77 = .ok (.if_icmp .gt 6, 3) := by decide +kernel
theorem dX11_gap_80 : decode cX11_gap 80 = .ok (.goto 15, 3) := by decide +kernel
theorem dX11_gap_83 : decode cX11_gap 83 = .ok (.iload 5, 2) := by decide +kernel
theorem dX11_gap_85 : decode cX11_gap 85 = .ok (.istore 4, 2) := by decide +kernel
theorem dX11_gap_87 : decode cX11_gap 87 = .ok (.iload 6, 2) := by decide +kernel
theorem dX11_gap_89 : decode cX11_gap 89 = .ok (.iload 5, 2) := by decide +kernel
theorem dX11_gap_91 : decode cX11_gap 91 = .ok (.isub, 1) := by decide +kernel
theorem dX11_gap_92 : decode cX11_gap 92 = .ok (.iconst 1, 1) := by decide +kernel
theorem dX11_gap_93 : decode cX11_gap 93 = .ok (.iadd, 1) := by decide +kernel
theorem dX11_gap_94 : decode cX11_gap 94 = .ok (.istore_n 3, 1) := by decide +kernel
theorem dX11_gap_95 : decode cX11_gap 95 = .ok (.iinc 6 1, 3) := by decide +kernel
theorem dX11_gap_98 : decode cX11_gap 98 = .ok (.goto (-63), 3) := by decide +kernel
theorem dX11_gap_101 : decode cX11_gap 101 = .ok (.iload_n 2, 1) := by decide +kernel
theorem dX11_gap_102 : decode cX11_gap 102 = .ok (.ifCond .ne 8, 3) := by decide +kernel
theorem dX11_gap_105 : decode cX11_gap 105 = .ok (.iload 4, 2) := by decide +kernel
theorem dX11_gap_107 : decode cX11_gap 107 = .ok (.goto 4, 3) := by decide +kernel
theorem dX11_gap_110 : decode cX11_gap 110 = .ok (.iload_n 3, 1) := by decide +kernel
theorem dX11_gap_111 : decode cX11_gap 111 = .ok (.ireturn, 1) := by decide +kernel
theorem dX11_used_0 : decode cX11_used 0 = .ok (.aload_n 0, 1) := by decide +kernel
theorem dX11_used_1 : decode cX11_used 1 = .ok (.iload_n 1, 1) := by decide +kernel
theorem dX11_used_2 : decode cX11_used 2 = .ok (.invokevirtual 404, 3) := by decide +kernel
theorem dX11_used_5 : decode cX11_used 5 = .ok (.ifCond .eq 13, 3) := by decide +kernel
theorem dX11_used_8 : decode cX11_used 8 = .ok (.iload_n 2, 1) := by decide +kernel
theorem dX11_used_9 : decode cX11_used 9 = .ok (.iconst 1, 1) := by decide +kernel
theorem dX11_used_10 : decode cX11_used 10 = .ok (.bipush 99, 2) := by decide +kernel
theorem dX11_used_12 : decode cX11_used 12 = .ok (.invokestatic 316, 3) := by decide +kernel
theorem dX11_used_15 : decode cX11_used 15 = .ok (.ifCond .ne 5, 3) := by decide +kernel
theorem dX11_used_18 : decode cX11_used 18 = .ok (.iconst (-1), 1) := by decide +kernel
theorem dX11_used_19 : decode cX11_used 19 = .ok (.ireturn, 1) := by decide +kernel
theorem dX11_used_20 : decode cX11_used 20 = .ok (.aload_n 0, 1) := by decide +kernel
theorem dX11_used_21 : decode cX11_used 21 = .ok (.invokevirtual 473, 3) := by decide +kernel
theorem dX11_used_24 : decode cX11_used 24 = .ok (.iconst 0, 1) := by decide +kernel
theorem dX11_used_25 : decode cX11_used 25 = .ok (.istore_n 3, 1) := by decide +kernel
theorem dX11_used_26 : decode cX11_used 26 = .ok (.iload_n 3, 1) := by decide +kernel
theorem dX11_used_27 : decode cX11_used 27 = .ok (.bipush 100, 2) := by decide +kernel
theorem dX11_used_29 : decode cX11_used 29 = .ok (.if_icmp .gt 28, 3) := by decide +kernel
theorem dX11_used_32 : decode cX11_used 32 = .ok (.aload_n 0, 1) := by decide +kernel
theorem dX11_used_33 : decode cX11_used 33 = .ok (.getfield 119, 3) := by decide +kernel
theorem dX11_used_36 : decode cX11_used 36 = .ok (.bipush 21, 2) := by decide +kernel
theorem dX11_used_38 : decode cX11_used 38 = .ok (.iload_n 1, 1) := by decide +kernel
theorem dX11_used_39 : decode cX11_used 39 = .ok (.iadd, 1) := by decide +kernel
theorem dX11_used_40 : decode cX11_used 40 = .ok (.iaload, 1) := by decide +kernel
theorem dX11_used_41 : decode cX11_used 41 = .ok (.iload_n 2, 1) := by decide +kernel
theorem dX11_used_42 : decode cX11_used 42 = .ok (.if_icmp .lt 5, 3) := by decide +kernel
theorem dX11_used_45 : decode cX11_used 45 = .ok (.iload_n 3, 1) := by decide +kernel
theorem dX11_used_46 : decode cX11_used 46 = .ok (.ireturn, 1) := by decide +kernel
theorem dX11_used_47 : decode cX11_used 47 = .ok (.aload_n 0, 1) := by decide +kernel
theorem dX11_used_48 : decode cX11_used 48 = .ok (.invokevirtual 401, 3) := by decide +kernel
theorem dX11_used_51 : decode cX11_used 51 = .ok (.iinc 3 1, 3) := by decide +kernel
theorem dX11_used_54 : decode cX11_used 54 = .ok (.goto (-28), 3) := by decide +kernel
theorem dX11_used_57 : decode cX11_used 57 = .ok (.bipush (-2), 2) := by decide +kernel
theorem dX11_used_59 : decode cX11_used 59 = .ok (.ireturn, 1) := by decide +kernel
theorem dX11_isWeary_0 : decode cX11_isWeary 0 = .ok (.aload_n 0, 1) := by decide +kernel
theorem dX11_isWeary_1 : decode cX11_isWeary 1 = .ok (.getfield 119, 3) := by decide +kernel
theorem dX11_isWeary_4 : decode cX11_isWeary 4 = .ok (.bipush 7, 2) := by decide +kernel
theorem dX11_isWeary_6 : decode cX11_isWeary 6 = .ok (.iload_n 1, 1) := by decide +kernel
theorem dX11_isWeary_7 : decode cX11_isWeary 7 = .ok (.iadd, 1) := by decide +kernel
theorem dX11_isWeary_8 : decode cX11_isWeary 8 = .ok (.iaload, 1) := by decide +kernel
theorem dX11_isWeary_9 : decode cX11_isWeary 9 = .ok (.aload_n 0, 1) := by decide +kernel
theorem dX11_isWeary_10 : decode cX11_isWeary 10 = .ok (.getfield 73, 3) := by decide +kernel
theorem dX11_isWeary_13 : decode cX11_isWeary 13 = .ok (.aload_n 0, 1) := by decide +kernel
theorem dX11_isWeary_14 : decode cX11_isWeary 14 = .ok (.getfield 236, 3) := by decide +kernel
theorem dX11_isWeary_17 : decode cX11_isWeary 17 = .ok (.iaload, 1) := by decide +kernel
theorem dX11_isWeary_18 : decode cX11_isWeary 18 = .ok (.if_icmp .lt 7, 3) := by decide +kernel
theorem dX11_isWeary_21 : decode cX11_isWeary 21 = .ok (.iconst 1, 1) := by decide +kernel
theorem dX11_isWeary_22 : decode cX11_isWeary 22 = .ok (.goto 4, 3) := by decide +kernel
theorem dX11_isWeary_25 : decode cX11_isWeary 25 = .ok (.iconst 0, 1) := by decide +kernel
theorem dX11_isWeary_26 : decode cX11_isWeary 26 = .ok (.ireturn, 1) := by decide +kernel
theorem dX11_first_0 : decode cX11_first 0 = .ok (.iload_n 1, 1) := by decide +kernel
theorem dX11_first_1 : decode cX11_first 1 = .ok (.iconst 0, 1) := by decide +kernel
theorem dX11_first_2 : decode cX11_first 2 = .ok (.iconst 1, 1) := by decide +kernel
theorem dX11_first_3 : decode cX11_first 3 = .ok (.invokestatic 316, 3) := by decide +kernel
theorem dX11_first_6 : decode cX11_first 6 = .ok (.ifCond .ne 5, 3) := by decide +kernel
theorem dX11_first_9 : decode cX11_first 9 = .ok (.iconst (-1), 1) := by decide +kernel
theorem dX11_first_10 : decode cX11_first 10 = .ok (.ireturn, 1) := by decide +kernel
theorem dX11_first_11 : decode cX11_first 11 = .ok (.aload_n 0, 1) := by decide +kernel
theorem dX11_first_12 : decode cX11_first 12 = .ok (.invokevirtual 473, 3) := by decide +kernel
theorem dX11_first_15 : decode cX11_first 15 = .ok (.iconst 0, 1) := by decide +kernel
theorem dX11_first_16 : decode cX11_first 16 = .ok (.istore_n 2, 1) := by decide +kernel
theorem dX11_first_17 : decode cX11_first 17 = .ok (.iload_n 2, 1) := by decide +kernel
theorem dX11_first_18 : decode cX11_first 18 = .ok (.bipush 100, 2) := by decide +kernel
theorem dX11_first_20 : decode cX11_first 20 = .ok (.if_icmp .gt 64, 3) := by decide +kernel
theorem dX11_first_23 : decode cX11_first 23 = .ok (.iconst 0, 1) := by decide +kernel
theorem dX11_first_24 : decode cX11_first 24 = .ok (.istore_n 3, 1) := by decide +kernel
theorem dX11_first_25 : decode cX11_first 25 = .ok (.iload_n 3, 1) := by decide +kernel
theorem dX11_first_26 : decode cX11_first 26 = .ok (.aload_n 0, 1) := by decide +kernel
theorem dX11_first_27 : decode cX11_first 27 = .ok (.getfield 55, 3) := by decide +kernel
theorem dX11_first_30 : decode cX11_first 30 = .ok (.aload_n 0, 1) := by decide +kernel
theorem dX11_first_31 : decode cX11_first 31 = .ok (.getfield 236, 3) := by decide +kernel
theorem dX11_first_34 : decode cX11_first 34 = .ok (.iaload, 1) := by decide +kernel
theorem dX11_first_35 : decode cX11_first 35 = .ok (.if_icmp .ge 39, 3) := by decide +kernel
theorem dX11_first_38 : decode cX11_first 38 = .ok (.aload_n 0, 1) := by decide +kernel
theorem dX11_first_39 : decode cX11_first 39 = .ok (.getfield 119, 3) := by decide +kernel
theorem dX11_first_42 : decode cX11_first 42 = .ok (.bipush 14, 2) := by decide +kernel
theorem dX11_first_44 : decode cX11_first 44 = .ok (.iload_n 3, 1) := by decide +kernel
theorem dX11_first_45 : decode cX11_first 45 = .ok (.iadd, 1) := by decide +kernel
theorem dX11_first_46 : decode cX11_first 46 = .ok (.iaload, 1) := by decide +kernel
theorem dX11_first_47 : decode cX11_first 47 = .ok (.ifCond .ne 21, 3) := by decide +kernel
theorem dX11_first_50 : decode cX11_first 50 = .ok (.aload_n 0, 1) := by decide +kernel
theorem dX11_first_51 : decode cX11_first 51 = .ok (.iload_n 3, 1) := by decide +kernel
theorem dX11_first_52 : decode cX11_first 52 = .ok (.invokevirtual 476, 3) := by decide +kernel
theorem dX11_first_55 : decode cX11_first 55 = .ok (.ifCond .eq 13, 3) := by decide +kernel
theorem dX11_first_58 : decode cX11_first 58 = .ok (.iload_n 1, 1) := by decide +kernel
theorem dX11_first_59 : decode cX11_first 59 = .ok (.ifCond .ne 7, 3) := by decide +kernel
theorem dX11_first_62 : decode cX11_first 62 = .ok (.iload_n 2, 1) := by decide +kernel
theorem dX11_first_63 : decode cX11_first 63 = .ok (.goto 4, 3) := by decide +kernel
theorem dX11_first_66 : decode cX11_first 66 = .ok (.iload_n 3, 1) := by decide +kernel
theorem dX11_first_67 : decode cX11_first 67 = .ok (.ireturn, 1) := by decide +kernel
theorem dX11_first_68 : decode cX11_first 68 = .ok (.iinc 3 1, 3) := by decide +kernel
theorem dX11_first_71 : decode cX11_first 71 = .ok (.goto (-46), 3) := by decide +kernel
theorem dX11_first_74 : decode cX11_first 74 = .ok (.aload_n 0, 1) := by decide +kernel
theorem dX11_first_75 : decode cX11_first 75 = .ok (.invokevirtual 401, 3) := by decide +kernel
theorem dX11_first_78 : decode cX11_first 78 = .ok (.iinc 2 1, 3) := by decide +kernel
theorem dX11_first_81 : decode cX11_first 81 = .ok (.goto (-64), 3) := by decide +kernel
theorem dX11_first_84 : decode cX11_first 84 = .ok (.bipush (-2), 2) := by decide +kernel
theorem dX11_first_86 : decode cX11_first 86 = .ok (.ireturn, 1) := by decide +kernel
theorem dX11_weary_0 : decode cX11_weary 0 = .ok (.aload_n 0, 1) := by decide +kernel
theorem dX11_weary_1 : decode cX11_weary 1 = .ok (.iload_n 1, 1) := by decide +kernel
theorem dX11_weary_2 : decode cX11_weary 2 = .ok (.invokevirtual 410, 3) := by decide +kernel
theorem dX11_weary_5 : decode cX11_weary 5 = .ok (.ifCond .ne 5, 3) := by decide +kernel
theorem dX11_weary_8 : decode cX11_weary 8 = .ok (.iconst (-1), 1) := by decide +kernel
theorem dX11_weary_9 : decode cX11_weary 9 = .ok (.ireturn, 1) := by decide +kernel
theorem dX11_weary_10 : decode cX11_weary 10 = .ok (.aload_n 0, 1) := by decide +kernel
theorem dX11_weary_11 : decode cX11_weary 11 = .ok (.invokevirtual 473, 3) := by decide +kernel
theorem dX11_weary_14 : decode cX11_weary 14 = .ok (.iconst 0, 1) := by decide +kernel
theorem dX11_weary_15 : decode cX11_weary 15 = .ok (.istore_n 2, 1) := by decide +kernel
theorem dX11_weary_16 : decode cX11_weary 16 = .ok (.iload_n 2, 1) := by decide +kernel
theorem dX11_weary_17 : decode cX11_weary 17 = .ok (.bipush 100, 2) := by decide +kernel
theorem dX11_weary_19 : decode cX11_weary 19 = .ok (.if_icmp .gt 23, 3) := by decide +kernel
theorem dX11_weary_22 : decode cX11_weary 22 = .ok (.aload_n 0, 1) := by decide +kernel
theorem dX11_weary_23 : decode cX11_weary 23 = .ok (.iload_n 1, 1) := by decide +kernel
theorem dX11_weary_24 : decode cX11_weary 24 = .ok (.invokevirtual 476, 3) := by decide +kernel
theorem dX11_weary_27 : decode cX11_weary 27 = .ok (.ifCond .eq 5, 3) := by decide +kernel
theorem dX11_weary_30 : decode cX11_weary 30 = .ok (.iload_n 2, 1) := by decide +kernel
theorem dX11_weary_31 : decode cX11_weary 31 = .ok (.ireturn, 1) := by decide +kernel
theorem dX11_weary_32 : decode cX11_weary 32 = .ok (.aload_n 0, 1) := by decide +kernel
theorem dX11_weary_33 : decode cX11_weary 33 = .ok (.invokevirtual 401, 3) := by decide +kernel
theorem dX11_weary_36 : decode cX11_weary 36 = .ok (.iinc 2 1, 3) := by decide +kernel
theorem dX11_weary_39 : decode cX11_weary 39 = .ok (.goto (-23), 3) := by decide +kernel
theorem dX11_weary_42 : decode cX11_weary 42 = .ok (.bipush (-2), 2) := by decide +kernel
theorem dX11_weary_44 : decode cX11_weary 44 = .ok (.ireturn, 1) := by decide +kernel
theorem dX11_isForSale_0 : decode cX11_isForSale 0 = .ok (.aload_n 0, 1) := by decide +kernel
theorem dX11_isForSale_1 : decode cX11_isForSale 1 = .ok (.iload_n 1, 1) := by decide +kernel
theorem dX11_isForSale_2 : decode cX11_isForSale 2 = .ok (.invokevirtual 404, 3) := by decide +kernel
theorem dX11_isForSale_5 : decode cX11_isForSale 5 = .ok (.ifCond .eq 19, 3) := by decide +kernel
theorem dX11_isForSale_8 : decode cX11_isForSale 8 = .ok (.aload_n 0, 1) := by decide +kernel
theorem dX11_isForSale_9 : decode cX11_isForSale 9 = .ok (.getfield 116, 3) := by decide +kernel
theorem dX11_isForSale_12 : decode cX11_isForSale 12 = .ok (.bipush 25, 2) := by decide +kernel
theorem dX11_isForSale_14 : decode cX11_isForSale 14 = .ok (.iload_n 1, 1) := by decide +kernel
theorem dX11_isForSale_15 : decode cX11_isForSale 15 = .ok (.iadd, 1) := by decide +kernel
theorem dX11_isForSale_16 : decode cX11_isForSale 16 = .ok (.iaload, 1) := by decide +kernel
theorem dX11_isForSale_17 : decode cX11_isForSale 17 = .ok (.ifCond .ne 7, 3) := by decide +kernel
theorem dX11_isForSale_20 : decode cX11_isForSale 20 = .ok (.iconst 1, 1) := by decide +kernel
theorem dX11_isForSale_21 : decode cX11_isForSale 21 = .ok (.goto 4, 3) := by decide +kernel
theorem dX11_isForSale_24 : decode cX11_isForSale 24 = .ok (.iconst 0, 1) := by decide +kernel
theorem dX11_isForSale_25 : decode cX11_isForSale 25 = .ok (.ireturn, 1) := by decide +kernel
theorem dX11_price_0 : decode cX11_price 0 = .ok (.aload_n 0, 1) := by decide +kernel
theorem dX11_price_1 : decode cX11_price 1 = .ok (.iload_n 1, 1) := by decide +kernel
theorem dX11_price_2 : decode cX11_price 2 = .ok (.invokevirtual 479, 3) := by decide +kernel
theorem dX11_price_5 : decode cX11_price 5 = .ok (.ifCond .eq 10, 3) := by decide +kernel
theorem dX11_price_8 : decode cX11_price 8 = .ok (.iload_n 2, 1) := by decide +kernel
theorem dX11_price_9 : decode cX11_price 9 = .ok (.invokestatic 428, 3) := by decide +kernel
theorem dX11_price_12 : decode cX11_price 12 = .ok (.ifCond .ne 5, 3) := by decide +kernel
theorem dX11_price_15 : decode cX11_price 15 = .ok (.iconst (-1), 1) := by decide +kernel
theorem dX11_price_16 : decode cX11_price 16 = .ok (.ireturn, 1) := by decide +kernel
theorem dX11_price_17 : decode cX11_price 17 = .ok (.aload_n 0, 1) := by decide +kernel
theorem dX11_price_18 : decode cX11_price 18 = .ok (.invokevirtual 473, 3) := by decide +kernel
theorem dX11_price_21 : decode cX11_price 21 = .ok (.aload_n 0, 1) := by decide +kernel
theorem dX11_price_22 : decode cX11_price 22 = .ok (.iload_n 2, 1) := by decide +kernel
theorem dX11_price_23 : decode cX11_price 23 = .ok (.invokevirtual 431, 3) := by decide +kernel
theorem dX11_price_26 : decode cX11_price 26 = .ok (.aload_n 0, 1) := by decide +kernel
theorem dX11_price_27 : decode cX11_price 27 = .ok (.iload_n 1, 1) := by decide +kernel
theorem dX11_price_28 : decode cX11_price 28 = .ok (.invokevirtual 407, 3) := by decide +kernel
theorem dX11_price_31 : decode cX11_price 31 = .ok (.ireturn, 1) := by decide +kernel
theorem dX11_best_0 : decode cX11_best 0 = .ok (.aload_n 0, 1) := by decide +kernel
theorem dX11_best_1 : decode cX11_best 1 = .ok (.iload_n 1, 1) := by decide +kernel
theorem dX11_best_2 : decode cX11_best 2 = .ok (.invokevirtual 479, 3) := by decide +kernel
theorem dX11_best_5 : decode cX11_best 5 = .ok (.ifCond .eq 19, 3) := by decide +kernel
theorem dX11_best_8 : decode cX11_best 8 = .ok (.iload_n 2, 1) := by decide +kernel
theorem dX11_best_9 : decode cX11_best 9 = .ok (.invokestatic 428, 3) := by decide +kernel
theorem dX11_best_12 : decode cX11_best 12 = .ok (.ifCond .eq 12, 3) := by decide +kernel
theorem dX11_best_15 : decode cX11_best 15 = .ok (.iload_n 3, 1) := by decide +kernel
theorem dX11_best_16 : decode cX11_best 16 = .ok (.iconst 0, 1) := by decide +kernel
theorem dX11_best_17 : decode cX11_best 17 = .ok (.iconst 1, 1) := by decide +kernel
theorem dX11_best_18 : decode cX11_best 18 = .ok (.invokestatic 316, 3) := by decide +kernel
theorem dX11_best_21 : decode cX11_best 21 = .ok (.ifCond .ne 5, 3) := by decide +kernel
theorem dX11_best_24 : decode cX11_best 24 = .ok (.iconst (-1), 1) := by decide +kernel
theorem dX11_best_25 : decode cX11_best 25 = .ok (.ireturn, 1) := by decide +kernel
theorem dX11_best_26 : decode cX11_best 26 = .ok (.aload_n 0, 1) := by decide +kernel
theorem dX11_best_27 : decode cX11_best 27 = .ok (.invokevirtual 473, 3) := by decide +kernel
theorem dX11_best_30 : decode cX11_best 30 = .ok (.iconst (-1), 1) := by decide +kernel
theorem dX11_best_31 : decode cX11_best 31 = .ok (.istore 4, 2) := by decide +kernel
theorem dX11_best_33 : decode cX11_best 33 = .ok (.iconst (-1), 1) := by decide +kernel
theorem dX11_best_34 : decode cX11_best 34 = .ok (.istore 5, 2) := by decide +kernel
theorem dX11_best_36 : decode cX11_best 36 = .ok (.iconst 0, 1) := by decide +kernel
theorem dX11_best_37 : decode cX11_best 37 = .ok (.istore 6, 2) := by decide +kernel
theorem dX11_best_39 : decode cX11_best 39 = .ok (.iload 6, 2) := by decide +kernel
theorem dX11_best_41 : decode cX11_best 41 = .ok (.iload_n 2, 1) := by decide +kernel
theorem dX11_best_42 : decode cX11_best 42 = .ok (.if_icmp .gt 34, 3) := by decide +kernel
theorem dX11_best_45 : decode cX11_best 45 = .ok (.aload_n 0, 1) := by decide +kernel
theorem dX11_best_46 : decode cX11_best 46 = .ok (.iload_n 1, 1) := by decide +kernel
theorem dX11_best_47 : decode cX11_best 47 = .ok (.invokevirtual 407, 3) := by decide +kernel
theorem dX11_best_50 : decode cX11_best 50 = .ok (.iload 5, 2) := by decide +kernel
theorem dX11_best_52 : decode cX11_best 52 = .ok (.if_icmp .le 14, 3) := by decide +kernel
theorem dX11_best_55 : decode cX11_best 55 = .ok (.iload 6, 2) := by decide +kernel
theorem dX11_best_57 : decode cX11_best 57 = .ok (.istore 4, 2) := by decide +kernel
theorem dX11_best_59 : decode cX11_best 59 = .ok (.aload_n 0, 1) := by decide +kernel
theorem dX11_best_60 : decode cX11_best 60 = .ok (.iload_n 1, 1) := by decide +kernel
theorem dX11_best_61 : decode cX11_best 61 = .ok (.invokevirtual 407, 3) := by decide +kernel
theorem dX11_best_64 : decode cX11_best 64 = .ok (.istore 5, 2) := by decide +kernel
theorem dX11_best_66 : decode cX11_best 66 = .ok (.aload_n 0, 1) := by decide +kernel
theorem dX11_best_67 : decode cX11_best 67 = .ok (.invokevirtual 401, 3) := by decide +kernel
theorem dX11_best_70 : decode cX11_best 70 = .ok (.iinc 6 1, 3) := by decide +kernel
theorem dX11_best_73 : decode cX11_best 73 = .ok (.goto (-34), 3) := by decide +kernel
theorem dX11_best_76 : decode cX11_best 76 = .ok (.iload_n 3, 1) := by decide +kernel
theorem dX11_best_77 : decode cX11_best 77 = .ok (.ifCond .ne 8, 3) := by decide +kernel
theorem dX11_best_80 : decode cX11_best 80 = .ok (.iload 4, 2) := by decide +kernel
theorem dX11_best_82 : decode cX11_best 82 = .ok (.goto 5, 3) := by decide +kernel
theorem dX11_best_85 : decode cX11_best 85 = .ok (.iload 5, 2) := by decide +kernel
theorem dX11_best_87 : decode cX11_best 87 = .ok (.ireturn, 1) := by decide +kernel
theorem dX11_earned_0 : decode cX11_earned 0 = .ok (.iload_n 1, 1) := by decide +kernel
theorem dX11_earned_1 : decode cX11_earned 1 = .ok (.invokestatic 428, 3) := by decide +kernel
theorem dX11_earned_4 : decode cX11_earned 4 = .ok (.ifCond .ne 5, 3) := by decide +kernel
theorem dX11_earned_7 : decode cX11_earned 7 = .ok (.iconst (-1), 1) := by decide +kernel
theorem dX11_earned_8 : decode cX11_earned 8 = .ok (.ireturn, 1) := by decide +kernel
theorem dX11_earned_9 : decode cX11_earned 9 = .ok (.aload_n 0, 1) := by decide +kernel
theorem dX11_earned_10 : decode cX11_earned 10 = .ok (.invokevirtual 473, 3) := by decide +kernel
theorem dX11_earned_13 : decode cX11_earned 13 = .ok (.aload_n 0, 1) := by decide +kernel
theorem dX11_earned_14 : decode cX11_earned 14 = .ok (.iload_n 1, 1) := by decide +kernel
theorem dX11_earned_15 : decode cX11_earned 15 = .ok (.invokevirtual 431, 3) := by decide +kernel
theorem dX11_earned_18 : decode cX11_earned 18 = .ok (.aload_n 0, 1) := by decide +kernel
theorem dX11_earned_19 : decode cX11_earned 19 = .ok (.getfield 119, 3) := by decide +kernel
theorem dX11_earned_22 : decode cX11_earned 22 = .ok (.bipush 30, 2) := by decide +kernel
theorem dX11_earned_24 : decode cX11_earned 24 = .ok (.iaload, 1) := by decide +kernel
theorem dX11_earned_25 : decode cX11_earned 25 = .ok (.aload_n 0, 1) := by decide +kernel
theorem dX11_earned_26 : decode cX11_earned 26 = .ok (.getfield 116, 3) := by decide +kernel
theorem dX11_earned_29 : decode cX11_earned 29 = .ok (.bipush 30, 2) := by decide +kernel
theorem dX11_earned_31 : decode cX11_earned 31 = .ok (.iaload, 1) := by decide +kernel
theorem dX11_earned_32 : decode cX11_earned 32 = .ok (.isub, 1) := by decide +kernel
theorem dX11_earned_33 : decode cX11_earned 33 = .ok (.ireturn, 1) := by decide +kernel
theorem dX11_then_0 : decode cX11_then 0 = .ok (.aload_n 0, 1) := by decide +kernel
theorem dX11_then_1 : decode cX11_then 1 = .ok (.iload_n 1, 1) := by decide +kernel
theorem dX11_then_2 : decode cX11_then 2 = .ok (.invokevirtual 410, 3) := by decide +kernel
theorem dX11_then_5 : decode cX11_then 5 = .ok (.ifCond .eq 19, 3) := by decide +kernel
theorem dX11_then_8 : decode cX11_then 8 = .ok (.iload_n 2, 1) := by decide +kernel
theorem dX11_then_9 : decode cX11_then 9 = .ok (.invokestatic 428, 3) := by decide +kernel
theorem dX11_then_12 : decode cX11_then 12 = .ok (.ifCond .eq 12, 3) := by decide +kernel
theorem dX11_then_15 : decode cX11_then 15 = .ok (.iload_n 3, 1) := by decide +kernel
theorem dX11_then_16 : decode cX11_then 16 = .ok (.iconst 0, 1) := by decide +kernel
theorem dX11_then_17 : decode cX11_then 17 = .ok (.iconst 2, 1) := by decide +kernel
theorem dX11_then_18 : decode cX11_then 18 = .ok (.invokestatic 316, 3) := by decide +kernel
theorem dX11_then_21 : decode cX11_then 21 = .ok (.ifCond .ne 5, 3) := by decide +kernel
theorem dX11_then_24 : decode cX11_then 24 = .ok (.iconst (-1), 1) := by decide +kernel
theorem dX11_then_25 : decode cX11_then 25 = .ok (.ireturn, 1) := by decide +kernel
theorem dX11_then_26 : decode cX11_then 26 = .ok (.aload_n 0, 1) := by decide +kernel
theorem dX11_then_27 : decode cX11_then 27 = .ok (.invokevirtual 326, 3) := by decide +kernel
theorem dX11_then_30 : decode cX11_then 30 = .ok (.aload_n 0, 1) := by decide +kernel
theorem dX11_then_31 : decode cX11_then 31 = .ok (.iload_n 2, 1) := by decide +kernel
theorem dX11_then_32 : decode cX11_then 32 = .ok (.invokevirtual 431, 3) := by decide +kernel
theorem dX11_then_35 : decode cX11_then 35 = .ok (.aload_n 0, 1) := by decide +kernel
theorem dX11_then_36 : decode cX11_then 36 = .ok (.getfield 119, 3) := by decide +kernel
theorem dX11_then_39 : decode cX11_then 39 = .ok (.bipush 7, 2) := by decide +kernel
theorem dX11_then_41 : decode cX11_then 41 = .ok (.iload_n 3, 1) := by decide +kernel
theorem dX11_then_42 : decode cX11_then 42 = .ok (.imul, 1) := by decide +kernel
theorem dX11_then_43 : decode cX11_then 43 = .ok (.iload_n 1, 1) := by decide +kernel
theorem dX11_then_44 : decode cX11_then 44 = .ok (.iadd, 1) := by decide +kernel
theorem dX11_then_45 : decode cX11_then 45 = .ok (.iaload, 1) := by decide +kernel
theorem dX11_then_46 : decode cX11_then 46 = .ok (.ireturn, 1) := by decide +kernel
theorem dX11_wornIn_0 : decode cX11_wornIn 0 = .ok (.aload_n 0, 1) := by decide +kernel
theorem dX11_wornIn_1 : decode cX11_wornIn 1 = .ok (.iload_n 1, 1) := by decide +kernel
theorem dX11_wornIn_2 : decode cX11_wornIn 2 = .ok (.invokevirtual 404, 3) := by decide +kernel
theorem dX11_wornIn_5 : decode cX11_wornIn 5 = .ok (.ifCond .eq 10, 3) := by decide +kernel
theorem dX11_wornIn_8 : decode cX11_wornIn 8 = .ok (.iload_n 2, 1) := by decide +kernel
theorem dX11_wornIn_9 : decode cX11_wornIn 9 = .ok (.invokestatic 428, 3) := by decide +kernel
theorem dX11_wornIn_12 : decode cX11_wornIn 12 = .ok (.ifCond .ne 5, 3) := by decide +kernel
theorem dX11_wornIn_15 : decode cX11_wornIn 15 = .ok (.iconst (-1), 1) := by decide +kernel
theorem dX11_wornIn_16 : decode cX11_wornIn 16 = .ok (.ireturn, 1) := by decide +kernel
theorem dX11_wornIn_17 : decode cX11_wornIn 17 = .ok (.aload_n 0, 1) := by decide +kernel
theorem dX11_wornIn_18 : decode cX11_wornIn 18 = .ok (.invokevirtual 326, 3) := by decide +kernel
theorem dX11_wornIn_21 : decode cX11_wornIn 21 = .ok (.aload_n 0, 1) := by decide +kernel
theorem dX11_wornIn_22 : decode cX11_wornIn 22 = .ok (.iload_n 2, 1) := by decide +kernel
theorem dX11_wornIn_23 : decode cX11_wornIn 23 = .ok (.invokevirtual 431, 3) := by decide +kernel
theorem dX11_wornIn_26 : decode cX11_wornIn 26 = .ok (.aload_n 0, 1) := by decide +kernel
theorem dX11_wornIn_27 : decode cX11_wornIn 27 = .ok (.getfield 119, 3) := by decide +kernel
theorem dX11_wornIn_30 : decode cX11_wornIn 30 = .ok (.bipush 21, 2) := by decide +kernel
theorem dX11_wornIn_32 : decode cX11_wornIn 32 = .ok (.iload_n 1, 1) := by decide +kernel
theorem dX11_wornIn_33 : decode cX11_wornIn 33 = .ok (.iadd, 1) := by decide +kernel
theorem dX11_wornIn_34 : decode cX11_wornIn 34 = .ok (.iaload, 1) := by decide +kernel
theorem dX11_wornIn_35 : decode cX11_wornIn 35 = .ok (.ireturn, 1) := by decide +kernel
theorem dX11_year_0 : decode cX11_year 0 = .ok (.aload_n 0, 1) := by decide +kernel
theorem dX11_year_1 : decode cX11_year 1 = .ok (.iload_n 1, 1) := by decide +kernel
theorem dX11_year_2 : decode cX11_year 2 = .ok (.invokevirtual 410, 3) := by decide +kernel
theorem dX11_year_5 : decode cX11_year 5 = .ok (.ifCond .eq 20, 3) := by decide +kernel
theorem dX11_year_8 : decode cX11_year 8 = .ok (.iload_n 2, 1) := by decide +kernel
theorem dX11_year_9 : decode cX11_year 9 = .ok (.invokestatic 428, 3) := by decide +kernel
theorem dX11_year_12 : decode cX11_year 12 = .ok (.ifCond .eq 13, 3) := by decide +kernel
theorem dX11_year_15 : decode cX11_year 15 = .ok (.iload_n 3, 1) := by decide +kernel
theorem dX11_year_16 : decode cX11_year 16 = .ok (.iconst 1, 1) := by decide +kernel
theorem dX11_year_17 : decode cX11_year 17 = .ok (.bipush 20, 2) := by decide +kernel
theorem dX11_year_19 : decode cX11_year 19 = .ok (.invokestatic 316, 3) := by decide +kernel
theorem dX11_year_22 : decode cX11_year 22 = .ok (.ifCond .ne 5, 3) := by decide +kernel
theorem dX11_year_25 : decode cX11_year 25 = .ok (.iconst (-1), 1) := by decide +kernel
theorem dX11_year_26 : decode cX11_year 26 = .ok (.ireturn, 1) := by decide +kernel
theorem dX11_year_27 : decode cX11_year 27 = .ok (.iconst 0, 1) := by decide +kernel
theorem dX11_year_28 : decode cX11_year 28 = .ok (.istore 4, 2) := by decide +kernel
theorem dX11_year_30 : decode cX11_year 30 = .ok (.iconst 0, 1) := by decide +kernel
theorem dX11_year_31 : decode cX11_year 31 = .ok (.istore 5, 2) := by decide +kernel
theorem dX11_year_33 : decode cX11_year 33 = .ok (.iload 5, 2) := by decide +kernel
theorem dX11_year_35 : decode cX11_year 35 = .ok (.iload_n 3, 1) := by decide +kernel
theorem dX11_year_36 : decode cX11_year 36 = .ok (.if_icmp .ge 44, 3) := by decide +kernel
theorem dX11_year_39 : decode cX11_year 39 = .ok (.aload_n 0, 1) := by decide +kernel
theorem dX11_year_40 : decode cX11_year 40 = .ok (.invokevirtual 326, 3) := by decide +kernel
theorem dX11_year_43 : decode cX11_year 43 = .ok (.aload_n 0, 1) := by decide +kernel
theorem dX11_year_44 : decode cX11_year 44 = .ok (.dup, 1) := by decide +kernel
theorem dX11_year_45 : decode cX11_year 45 = .ok (.getfield 320, 3) := by decide +kernel
theorem dX11_year_48 : decode cX11_year 48 = .ok (.iload 5, 2) := by decide +kernel
theorem dX11_year_50 : decode cX11_year 50 = .ok (.iadd, 1) := by decide +kernel
theorem dX11_year_51 : decode cX11_year 51 = .ok (.putfield 320, 3) := by decide +kernel
theorem dX11_year_54 : decode cX11_year 54 = .ok (.aload_n 0, 1) := by decide +kernel
theorem dX11_year_55 : decode cX11_year 55 = .ok (.iload_n 2, 1) := by decide +kernel
theorem dX11_year_56 : decode cX11_year 56 = .ok (.invokevirtual 431, 3) := by decide +kernel
theorem dX11_year_59 : decode cX11_year 59 = .ok (.aload_n 0, 1) := by decide +kernel
theorem dX11_year_60 : decode cX11_year 60 = .ok (.getfield 119, 3) := by decide +kernel
theorem dX11_year_63 : decode cX11_year 63 = .ok (.bipush 14, 2) := by decide +kernel
theorem dX11_year_65 : decode cX11_year 65 = .ok (.iload_n 1, 1) := by decide +kernel
theorem dX11_year_66 : decode cX11_year 66 = .ok (.iadd, 1) := by decide +kernel
theorem dX11_year_67 : decode cX11_year 67 = .ok (.iaload, 1) := by decide +kernel
theorem dX11_year_68 : decode cX11_year 68 = .ok (.ifCond .ne 6, 3) := by decide +kernel
theorem dX11_year_71 : decode cX11_year 71 = .ok (.iinc 4 1, 3) := by decide +kernel
theorem dX11_year_74 : decode cX11_year 74 = .ok (.iinc 5 1, 3) := by decide +kernel
theorem dX11_year_77 : decode cX11_year 77 = .ok (.goto (-44), 3) := by decide +kernel
theorem dX11_year_80 : decode cX11_year 80 = .ok (.iload 4, 2) := by decide +kernel
theorem dX11_year_82 : decode cX11_year 82 = .ok (.ireturn, 1) := by decide +kernel
theorem dX11_tell_0 : decode cX11_tell 0 = .ok (.aload_n 0, 1) := by decide +kernel
theorem dX11_tell_1 : decode cX11_tell 1 = .ok (.getfield 257, 3) := by decide +kernel
theorem dX11_tell_4 : decode cX11_tell 4 = .ok (.bipush 20, 2) := by decide +kernel
theorem dX11_tell_6 : decode cX11_tell 6 = .ok (.if_icmp .eq 13, 3) := by decide +kernel
theorem dX11_tell_9 : decode cX11_tell 9 = .ok (.iload_n 1, 1) := by decide +kernel
theorem dX11_tell_10 : decode cX11_tell 10 = .ok (.iconst 0, 1) := by decide +kernel
theorem dX11_tell_11 : decode cX11_tell 11 = .ok (.bipush 23, 2) := by decide +kernel
theorem dX11_tell_13 : decode cX11_tell 13 = .ok (.invokestatic 316, 3) := by decide +kernel
theorem dX11_tell_16 : decode cX11_tell 16 = .ok (.ifCond .ne 5, 3) := by decide +kernel
theorem dX11_tell_19 : decode cX11_tell 19 = .ok (.iconst (-1), 1) := by decide +kernel
theorem dX11_tell_20 : decode cX11_tell 20 = .ok (.ireturn, 1) := by decide +kernel
theorem dX11_tell_21 : decode cX11_tell 21 = .ok (.aload_n 0, 1) := by decide +kernel
theorem dX11_tell_22 : decode cX11_tell 22 = .ok (.getfield 143, 3) := by decide +kernel
theorem dX11_tell_25 : decode cX11_tell 25 = .ok (.aload_n 0, 1) := by decide +kernel
theorem dX11_tell_26 : decode cX11_tell 26 = .ok (.getfield 257, 3) := by decide +kernel
theorem dX11_tell_29 : decode cX11_tell 29 = .ok (.iload_n 1, 1) := by decide +kernel
theorem dX11_tell_30 : decode cX11_tell 30 = .ok (.iastore, 1) := by decide +kernel
theorem dX11_tell_31 : decode cX11_tell 31 = .ok (.aload_n 0, 1) := by decide +kernel
theorem dX11_tell_32 : decode cX11_tell 32 = .ok (.getfield 146, 3) := by decide +kernel
theorem dX11_tell_35 : decode cX11_tell 35 = .ok (.aload_n 0, 1) := by decide +kernel
theorem dX11_tell_36 : decode cX11_tell 36 = .ok (.getfield 257, 3) := by decide +kernel
theorem dX11_tell_39 : decode cX11_tell 39 = .ok (.iload_n 2, 1) := by decide +kernel
theorem dX11_tell_40 : decode cX11_tell 40 = .ok (.bastore, 1) := by decide +kernel
theorem dX11_tell_41 : decode cX11_tell 41 = .ok (.aload_n 0, 1) := by decide +kernel
theorem dX11_tell_42 : decode cX11_tell 42 = .ok (.dup, 1) := by decide +kernel
theorem dX11_tell_43 : decode cX11_tell 43 = .ok (.getfield 257, 3) := by decide +kernel
theorem dX11_tell_46 : decode cX11_tell 46 = .ok (.iconst 1, 1) := by decide +kernel
theorem dX11_tell_47 : decode cX11_tell 47 = .ok (.iadd, 1) := by decide +kernel
theorem dX11_tell_48 : decode cX11_tell 48 = .ok (.putfield 257, 3) := by decide +kernel
theorem dX11_tell_51 : decode cX11_tell 51 = .ok (.aload_n 0, 1) := by decide +kernel
theorem dX11_tell_52 : decode cX11_tell 52 = .ok (.getfield 257, 3) := by decide +kernel
theorem dX11_tell_55 : decode cX11_tell 55 = .ok (.iconst 1, 1) := by decide +kernel
theorem dX11_tell_56 : decode cX11_tell 56 = .ok (.isub, 1) := by decide +kernel
theorem dX11_tell_57 : decode cX11_tell 57 = .ok (.ireturn, 1) := by decide +kernel
theorem dX11_forget_0 : decode cX11_forget 0 = .ok (.aload_n 0, 1) := by decide +kernel
theorem dX11_forget_1 : decode cX11_forget 1 = .ok (.getfield 257, 3) := by decide +kernel
theorem dX11_forget_4 : decode cX11_forget 4 = .ok (.istore_n 1, 1) := by decide +kernel
theorem dX11_forget_5 : decode cX11_forget 5 = .ok (.aload_n 0, 1) := by decide +kernel
theorem dX11_forget_6 : decode cX11_forget 6 = .ok (.iconst 0, 1) := by decide +kernel
theorem dX11_forget_7 : decode cX11_forget 7 = .ok (.putfield 257, 3) := by decide +kernel
theorem dX11_forget_10 : decode cX11_forget 10 = .ok (.iload_n 1, 1) := by decide +kernel
theorem dX11_forget_11 : decode cX11_forget 11 = .ok (.ireturn, 1) := by decide +kernel
theorem dX11_isThere_0 : decode cX11_isThere 0 = .ok (.iload_n 2, 1) := by decide +kernel
theorem dX11_isThere_1 : decode cX11_isThere 1 = .ok (.aload_n 0, 1) := by decide +kernel
theorem dX11_isThere_2 : decode cX11_isThere 2 = .ok (.iload_n 1, 1) := by decide +kernel
theorem dX11_isThere_3 : decode cX11_isThere 3 = .ok (.invokevirtual 333, 3) := by decide +kernel
theorem dX11_isThere_6 : decode cX11_isThere 6 = .ok (.aload_n 0, 1) := by decide +kernel
theorem dX11_isThere_7 : decode cX11_isThere 7 = .ok (.iload_n 1, 1) := by decide +kernel
theorem dX11_isThere_8 : decode cX11_isThere 8 = .ok (.invokevirtual 336, 3) := by decide +kernel
theorem dX11_isThere_11 : decode cX11_isThere 11 = .ok (.iconst 1, 1) := by decide +kernel
theorem dX11_isThere_12 : decode cX11_isThere 12 = .ok (.isub, 1) := by decide +kernel
theorem dX11_isThere_13 : decode cX11_isThere 13 = .ok (.invokestatic 316, 3) := by decide +kernel
theorem dX11_isThere_16 : decode cX11_isThere 16 = .ok (.ireturn, 1) := by decide +kernel
theorem dX11_whoseBits_0 : decode cX11_whoseBits 0 = .ok (.iconst 0, 1) := by decide +kernel
theorem dX11_whoseBits_1 : decode cX11_whoseBits 1 = .ok (.istore_n 2, 1) := by decide +kernel
theorem dX11_whoseBits_2 : decode cX11_whoseBits 2 = .ok (.iconst 0, 1) := by decide +kernel
theorem dX11_whoseBits_3 : decode cX11_whoseBits 3 = .ok (.istore_n 3, 1) := by decide +kernel
theorem dX11_whoseBits_4 : decode cX11_whoseBits 4 = .ok (.iload_n 3, 1) := by decide +kernel
theorem dX11_whoseBits_5 : decode cX11_whoseBits 5 = .ok (.aload_n 0, 1) := by decide +kernel
theorem dX11_whoseBits_6 : decode cX11_whoseBits 6 = .ok (.getfield 55, 3) := by decide +kernel
theorem dX11_whoseBits_9 : decode cX11_whoseBits 9 = .ok (.aload_n 0, 1) := by decide +kernel
theorem dX11_whoseBits_10 : decode cX11_whoseBits 10 = .ok (.getfield 236, 3) := by decide +kernel
theorem dX11_whoseBits_13 : decode cX11_whoseBits 13 = .ok (.iaload, 1) := by decide +kernel
theorem dX11_whoseBits_14 : decode cX11_whoseBits 14 = .ok (.if_icmp .ge 63, 3) := by decide +kernel
theorem dX11_whoseBits_17 : decode cX11_whoseBits 17 = .ok (.iconst 1, 1) := by decide +kernel
theorem dX11_whoseBits_18 : decode cX11_whoseBits 18 = .ok (.istore 4, 2) := by decide +kernel
theorem dX11_whoseBits_20 : decode cX11_whoseBits 20 = .ok (.iconst 0, 1) := by decide +kernel
theorem dX11_whoseBits_21 : decode cX11_whoseBits 21 = .ok (.istore 5, 2) := by decide +kernel
theorem dX11_whoseBits_23 : decode cX11_whoseBits 23 = .ok (.iload 5, 2) := by decide +kernel
theorem dX11_whoseBits_25 : decode cX11_whoseBits 25 = .ok (.iload_n 1, 1) := by decide +kernel
theorem dX11_whoseBits_26 : decode cX11_whoseBits 26 = .ok (.if_icmp .ge 34, 3) := by decide +kernel
theorem dX11_whoseBits_29 : decode cX11_whoseBits 29 = .ok (.aload_n 0, 1) := by decide +kernel
theorem dX11_whoseBits_30 : decode cX11_whoseBits 30 = .ok (.iload_n 3, 1) := by decide +kernel
theorem dX11_whoseBits_31 : decode cX11_whoseBits 31 = .ok (.aload_n 0, 1) := by decide +kernel
theorem dX11_whoseBits_32 : decode cX11_whoseBits 32 = .ok (.getfield 143, 3) := by decide +kernel
theorem dX11_whoseBits_35 : decode cX11_whoseBits 35 = .ok (.iload 5, 2) := by decide +kernel
theorem dX11_whoseBits_37 : decode cX11_whoseBits 37 = .ok (.iaload, 1) := by decide +kernel
theorem dX11_whoseBits_38 : decode cX11_whoseBits 38 = .ok (.invokevirtual 482, 3) := by decide +kernel
theorem dX11_whoseBits_41 : decode cX11_whoseBits 41 = .ok (.aload_n 0, 1) := by decide +kernel
theorem dX11_whoseBits_42 : decode cX11_whoseBits 42 = .ok (.getfield 146, 3) := by decide +kernel
theorem dX11_whoseBits_45 : decode cX11_whoseBits 45 = .ok (.iload 5, 2) := by decide +kernel
theorem dX11_whoseBits_47 : decode cX11_whoseBits 47 = .ok (.baload, 1) := by decide +kernel
theorem dX11_whoseBits_48 : decode cX11_whoseBits 48 = .ok (.if_icmp .eq 6, 3) := by decide +kernel
theorem dX11_whoseBits_51 : decode cX11_whoseBits 51 = .ok (.iconst 0, 1) := by decide +kernel
theorem dX11_whoseBits_52 : decode cX11_whoseBits 52 = .ok (.istore 4, 2) := by decide +kernel
theorem dX11_whoseBits_54 : decode cX11_whoseBits 54 = .ok (.iinc 5 1, 3) := by decide +kernel
theorem dX11_whoseBits_57 : decode cX11_whoseBits 57 = .ok (.goto (-34), 3) := by decide +kernel
theorem dX11_whoseBits_60 : decode cX11_whoseBits 60 = .ok (.iload 4, 2) := by decide +kernel
theorem dX11_whoseBits_62 : decode cX11_whoseBits 62 = .ok (.ifCond .eq 9, 3) := by decide +kernel
theorem dX11_whoseBits_65 : decode cX11_whoseBits 65 = .ok (.iload_n 2, 1) := by decide +kernel
theorem dX11_whoseBits_66 : decode cX11_whoseBits 66 = .ok (.iconst 1, 1) := by decide +kernel
theorem dX11_whoseBits_67 : decode cX11_whoseBits 67 = .ok (.iload_n 3, 1) := by decide +kernel
theorem dX11_whoseBits_68 : decode cX11_whoseBits 68 = .ok (.ishl, 1) := by decide +kernel
theorem dX11_whoseBits_69 : decode cX11_whoseBits 69 = .ok (.ior, 1) := by decide +kernel
theorem dX11_whoseBits_70 : decode cX11_whoseBits 70 = .ok (.istore_n 2, 1) := by decide +kernel
theorem dX11_whoseBits_71 : decode cX11_whoseBits 71 = .ok (.iinc 3 1, 3) := by decide +kernel
theorem dX11_whoseBits_74 : decode cX11_whoseBits 74 = .ok (.goto (-70), 3) := by decide +kernel
theorem dX11_whoseBits_77 : decode cX11_whoseBits 77 = .ok (.iload_n 2, 1) := by decide +kernel
theorem dX11_whoseBits_78 : decode cX11_whoseBits 78 = .ok (.ireturn, 1) := by decide +kernel
theorem dX11_whose_0 : decode cX11_whose 0 = .ok (.iload_n 1, 1) := by decide +kernel
theorem dX11_whose_1 : decode cX11_whose 1 = .ok (.iconst 0, 1) := by decide +kernel
theorem dX11_whose_2 : decode cX11_whose 2 = .ok (.aload_n 0, 1) := by decide +kernel
theorem dX11_whose_3 : decode cX11_whose 3 = .ok (.getfield 257, 3) := by decide +kernel
theorem dX11_whose_6 : decode cX11_whose 6 = .ok (.invokestatic 316, 3) := by decide +kernel
theorem dX11_whose_9 : decode cX11_whose 9 = .ok (.ifCond .eq 12, 3) := by decide +kernel
theorem dX11_whose_12 : decode cX11_whose 12 = .ok (.iload_n 2, 1) := by decide +kernel
theorem dX11_whose_13 : decode cX11_whose 13 = .ok (.iconst 0, 1) := by decide +kernel
theorem dX11_whose_14 : decode cX11_whose 14 = .ok (.iconst 1, 1) := by decide +kernel
theorem dX11_whose_15 : decode cX11_whose 15 = .ok (.invokestatic 316, 3) := by decide +kernel
theorem dX11_whose_18 : decode cX11_whose 18 = .ok (.ifCond .ne 5, 3) := by decide +kernel
theorem dX11_whose_21 : decode cX11_whose 21 = .ok (.iconst (-1), 1) := by decide +kernel
theorem dX11_whose_22 : decode cX11_whose 22 = .ok (.ireturn, 1) := by decide +kernel
theorem dX11_whose_23 : decode cX11_whose 23 = .ok (.aload_n 0, 1) := by decide +kernel
theorem dX11_whose_24 : decode cX11_whose 24 = .ok (.iload_n 1, 1) := by decide +kernel
theorem dX11_whose_25 : decode cX11_whose 25 = .ok (.invokevirtual 485, 3) := by decide +kernel
theorem dX11_whose_28 : decode cX11_whose 28 = .ok (.istore_n 3, 1) := by decide +kernel
theorem dX11_whose_29 : decode cX11_whose 29 = .ok (.iload_n 2, 1) := by decide +kernel
theorem dX11_whose_30 : decode cX11_whose 30 = .ok (.ifCond .ne 10, 3) := by decide +kernel
theorem dX11_whose_33 : decode cX11_whose 33 = .ok (.iload_n 3, 1) := by decide +kernel
theorem dX11_whose_34 : decode cX11_whose 34 = .ok (.invokestatic 365, 3) := by decide +kernel
theorem dX11_whose_37 : decode cX11_whose 37 = .ok (.goto 4, 3) := by decide +kernel
theorem dX11_whose_40 : decode cX11_whose 40 = .ok (.iload_n 3, 1) := by decide +kernel
theorem dX11_whose_41 : decode cX11_whose 41 = .ok (.ireturn, 1) := by decide +kernel
theorem dX11_look_0 : decode cX11_look 0 = .ok (.iload_n 1, 1) := by decide +kernel
theorem dX11_look_1 : decode cX11_look 1 = .ok (.iconst 0, 1) := by decide +kernel
theorem dX11_look_2 : decode cX11_look 2 = .ok (.aload_n 0, 1) := by decide +kernel
theorem dX11_look_3 : decode cX11_look 3 = .ok (.getfield 257, 3) := by decide +kernel
theorem dX11_look_6 : decode cX11_look 6 = .ok (.invokestatic 316, 3) := by decide +kernel
theorem dX11_look_9 : decode cX11_look 9 = .ok (.ifCond .ne 5, 3) := by decide +kernel
theorem dX11_look_12 : decode cX11_look 12 = .ok (.iconst (-1), 1) := by decide +kernel
theorem dX11_look_13 : decode cX11_look 13 = .ok (.ireturn, 1) := by decide +kernel
theorem dX11_look_14 : decode cX11_look 14 = .ok (.aload_n 0, 1) := by decide +kernel
theorem dX11_look_15 : decode cX11_look 15 = .ok (.iload_n 1, 1) := by decide +kernel
theorem dX11_look_16 : decode cX11_look 16 = .ok (.invokevirtual 485, 3) := by decide +kernel
theorem dX11_look_19 : decode cX11_look 19 = .ok (.istore_n 2, 1) := by decide +kernel
theorem dX11_look_20 : decode cX11_look 20 = .ok (.bipush (-2), 2) := by decide +kernel
theorem dX11_look_22 : decode cX11_look 22 = .ok (.istore_n 3, 1) := by decide +kernel
theorem dX11_look_23 : decode cX11_look 23 = .ok (.iconst 0, 1) := by decide +kernel
theorem dX11_look_24 : decode cX11_look 24 = .ok (.istore 4, 2) := by decide +kernel
theorem dX11_look_26 : decode cX11_look 26 = .ok (.iconst 0, 1) := by decide +kernel
theorem dX11_look_27 : decode cX11_look 27 = .ok (.istore 5, 2) := by decide +kernel
theorem dX11_look_29 : decode cX11_look 29 = .ok (.iload 5, 2) := by decide +kernel
theorem dX11_look_31 : decode cX11_look 31 = .ok (.bipush 24, 2) := by decide +kernel
theorem dX11_look_33 : decode cX11_look 33 = .ok (.if_icmp .ge 110, 3) := by decide +kernel
theorem dX11_look_36 : decode cX11_look 36 = .ok (.iload_n 2, 1) := by decide +kernel
theorem dX11_look_37 : decode cX11_look 37 = .ok (.ifCond .eq 106, 3) := by decide +kernel
theorem dX11_look_40 : decode cX11_look 40 = .ok (.iconst 0, 1) := by decide +kernel
theorem dX11_look_41 : decode cX11_look 41 = .ok (.istore 6, 2) := by decide +kernel
theorem dX11_look_43 : decode cX11_look 43 = .ok (.iconst 0, 1) := by decide +kernel
theorem dX11_look_44 : decode cX11_look 44 = .ok (.istore 7, 2) := by decide +kernel
theorem dX11_look_46 : decode cX11_look 46 = .ok (.iload 7, 2) := by decide +kernel
theorem dX11_look_48 : decode cX11_look 48 = .ok (.aload_n 0, 1) := by decide +kernel
theorem dX11_look_49 : decode cX11_look 49 = .ok (.getfield 55, 3) := by decide +kernel
theorem dX11_look_52 : decode cX11_look 52 = .ok (.aload_n 0, 1) := by decide +kernel
theorem dX11_look_53 : decode cX11_look 53 = .ok (.getfield 236, 3) := by decide +kernel
theorem dX11_look_56 : decode cX11_look 56 = .ok (.iaload, 1) := by decide +kernel
theorem dX11_look_57 : decode cX11_look 57 = .ok (.if_icmp .ge 33, 3) := by decide +kernel
theorem dX11_look_60 : decode cX11_look 60 = .ok (.iload_n 2, 1) := by decide +kernel
theorem dX11_look_61 : decode cX11_look 61 = .ok (.iload 7, 2) := by decide +kernel
theorem dX11_look_63 : decode cX11_look 63 = .ok (.ishr, 1) := by decide +kernel
theorem dX11_look_64 : decode cX11_look 64 = .ok (.iconst 1, 1) := by decide +kernel
theorem dX11_look_65 : decode cX11_look 65 = .ok (.iand, 1) := by decide +kernel
theorem dX11_look_66 : decode cX11_look 66 = .ok (.iconst 1, 1) := by decide +kernel
theorem dX11_look_67 : decode cX11_look 67 = .ok (.if_icmp .ne 17, 3) := by decide +kernel
theorem dX11_look_70 : decode cX11_look 70 = .ok (.aload_n 0, 1) := by decide +kernel
theorem dX11_look_71 : decode cX11_look 71 = .ok (.iload 7, 2) := by decide +kernel
theorem dX11_look_73 : decode cX11_look 73 = .ok (.iload 5, 2) := by decide +kernel
theorem dX11_look_75 : decode cX11_look 75 = .ok (.invokevirtual 482, 3) := by decide +kernel
theorem dX11_look_78 : decode cX11_look 78 = .ok (.ifCond .eq 6, 3) := by decide +kernel
theorem dX11_look_81 : decode cX11_look 81 = .ok (.iinc 6 1, 3) := by decide +kernel
theorem dX11_look_84 : decode cX11_look 84 = .ok (.iinc 7 1, 3) := by decide +kernel
theorem dX11_look_87 : decode cX11_look 87 = .ok (.goto (-41), 3) := by decide +kernel
theorem dX11_look_90 : decode cX11_look 90 = .ok (.iload 6, 2) := by decide +kernel
theorem dX11_look_92 : decode cX11_look 92 = .ok (.iload_n 2, 1) := by decide +kernel
theorem dX11_look_93 : decode cX11_look 93 = .ok (.invokestatic 365, 3) := by decide +kernel
theorem dX11_look_96 : decode cX11_look 96 = .ok (.iload 6, 2) := by decide +kernel
theorem dX11_look_98 : decode cX11_look 98 = .ok (.isub, 1) := by decide +kernel
theorem dX11_look_99 : decode cX11_look 99 = .ok (.if_icmp .le 8, 3) := by decide +kernel
theorem dX11_look_102 : decode cX11_look 102 = .ok (.iload 6, 2) := by decide +kernel
theorem dX11_look_104 : decode cX11_look 104 = .ok (.goto 10, 3) := by decide +kernel
theorem dX11_look_107 : decode cX11_look 107 = .ok (.iload_n 2, 1) := by decide +kernel
theorem dX11_look_108 : decode cX11_look 108 = .ok (.invokestatic 365, 3) := by decide +kernel
theorem dX11_look_111 : decode cX11_look 111 = .ok (.iload 6, 2) := by decide +kernel
theorem dX11_look_113 : decode cX11_look 113 = .ok (.isub, 1) := by decide +kernel
theorem dX11_look_114 : decode cX11_look 114 = .ok (.istore 7, 2) := by decide +kernel
theorem dX11_look_116 : decode cX11_look 116 = .ok (.iload_n 3, 1) := by decide +kernel
theorem dX11_look_117 : decode cX11_look 117 = .ok (.ifCond .lt 13, 3) := by decide +kernel
theorem dX11_look_120 : decode cX11_look 120 = .ok (.iload 7, 2) := by decide +kernel
theorem dX11_look_122 : decode cX11_look 122 = .ok (.iload 4, 2) := by decide +kernel
theorem dX11_look_124 : decode cX11_look 124 = .ok (.if_icmp .lt 6, 3) := by decide +kernel
theorem dX11_look_127 : decode cX11_look 127 = .ok (.goto 10, 3) := by decide +kernel
theorem dX11_look_130 : decode cX11_look 130 = .ok (.iload 5, 2) := by decide +kernel
theorem dX11_look_132 : decode cX11_look 132 = .ok (.istore_n 3, 1) := by decide +kernel
theorem dX11_look_133 : decode cX11_look 133 = .ok (.iload 7, 2) := by decide +kernel
theorem dX11_look_135 : decode cX11_look 135 = .ok (.istore 4, 2) := by decide +kernel
theorem dX11_look_137 : decode cX11_look 137 = .ok (.iinc 5 1, 3) := by decide +kernel
theorem dX11_look_140 : decode cX11_look 140 = .ok (.goto (-111), 3) := by decide +kernel
theorem dX11_look_143 : decode cX11_look 143 = .ok (.iload_n 3, 1) := by decide +kernel
theorem dX11_look_144 : decode cX11_look 144 = .ok (.ireturn, 1) := by decide +kernel
theorem dX11_hold_0 : decode cX11_hold 0 = .ok (.iload_n 1, 1) := by decide +kernel
theorem dX11_hold_1 : decode cX11_hold 1 = .ok (.iconst 0, 1) := by decide +kernel
theorem dX11_hold_2 : decode cX11_hold 2 = .ok (.iconst 2, 1) := by decide +kernel
theorem dX11_hold_3 : decode cX11_hold 3 = .ok (.invokestatic 316, 3) := by decide +kernel
theorem dX11_hold_6 : decode cX11_hold 6 = .ok (.ifCond .ne 5, 3) := by decide +kernel
theorem dX11_hold_9 : decode cX11_hold 9 = .ok (.iconst 0, 1) := by decide +kernel
theorem dX11_hold_10 : decode cX11_hold 10 = .ok (.ireturn, 1) := by decide +kernel
theorem dX11_hold_11 : decode cX11_hold 11 = .ok (.aload_n 0, 1) := by decide +kernel
theorem dX11_hold_12 : decode cX11_hold 12 = .ok (.getfield 149, 3) := by decide +kernel
theorem dX11_hold_15 : decode cX11_hold 15 = .ok (.iload_n 1, 1) := by decide +kernel
theorem dX11_hold_16 : decode cX11_hold 16 = .ok (.iconst 1, 1) := by decide +kernel
theorem dX11_hold_17 : decode cX11_hold 17 = .ok (.bastore, 1) := by decide +kernel
theorem dX11_hold_18 : decode cX11_hold 18 = .ok (.iconst 0, 1) := by decide +kernel
theorem dX11_hold_19 : decode cX11_hold 19 = .ok (.istore_n 2, 1) := by decide +kernel
theorem dX11_hold_20 : decode cX11_hold 20 = .ok (.iload_n 2, 1) := by decide +kernel
theorem dX11_hold_21 : decode cX11_hold 21 = .ok (.bipush 31, 2) := by decide +kernel
theorem dX11_hold_23 : decode cX11_hold 23 = .ok (.if_icmp .ge 26, 3) := by decide +kernel
theorem dX11_hold_26 : decode cX11_hold 26 = .ok (.aload_n 0, 1) := by decide +kernel
theorem dX11_hold_27 : decode cX11_hold 27 = .ok (.getfield 152, 3) := by decide +kernel
theorem dX11_hold_30 : decode cX11_hold 30 = .ok (.bipush 31, 2) := by decide +kernel
theorem dX11_hold_32 : decode cX11_hold 32 = .ok (.iload_n 1, 1) := by decide +kernel
theorem dX11_hold_33 : decode cX11_hold 33 = .ok (.imul, 1) := by decide +kernel
theorem dX11_hold_34 : decode cX11_hold 34 = .ok (.iload_n 2, 1) := by decide +kernel
theorem dX11_hold_35 : decode cX11_hold 35 = .ok (.iadd, 1) := by decide +kernel
theorem dX11_hold_36 : decode cX11_hold 36 = .ok (.aload_n 0, 1) := by decide +kernel
theorem dX11_hold_37 : decode cX11_hold 37 = .ok (.getfield 116, 3) := by decide +kernel
theorem dX11_hold_40 : decode cX11_hold 40 = .ok (.iload_n 2, 1) := by decide +kernel
theorem dX11_hold_41 : decode cX11_hold 41 = .ok (.iaload, 1) := by decide +kernel
theorem dX11_hold_42 : decode cX11_hold 42 = .ok (.iastore, 1) := by decide +kernel
theorem dX11_hold_43 : decode cX11_hold 43 = .ok (.iinc 2 1, 3) := by decide +kernel
theorem dX11_hold_46 : decode cX11_hold 46 = .ok (.goto (-26), 3) := by decide +kernel
theorem dX11_hold_49 : decode cX11_hold 49 = .ok (.iconst 1, 1) := by decide +kernel
theorem dX11_hold_50 : decode cX11_hold 50 = .ok (.ireturn, 1) := by decide +kernel
theorem dX11_restore_0 : decode cX11_restore 0 = .ok (.iload_n 1, 1) := by decide +kernel
theorem dX11_restore_1 : decode cX11_restore 1 = .ok (.iconst 0, 1) := by decide +kernel
theorem dX11_restore_2 : decode cX11_restore 2 = .ok (.iconst 2, 1) := by decide +kernel
theorem dX11_restore_3 : decode cX11_restore 3 = .ok (.invokestatic 316, 3) := by decide +kernel
theorem dX11_restore_6 : decode cX11_restore 6 = .ok (.ifCond .eq 12, 3) := by decide +kernel
theorem dX11_restore_9 : decode cX11_restore 9 = .ok (.aload_n 0, 1) := by decide +kernel
theorem dX11_restore_10 : decode cX11_restore 10 = .ok (.getfield 149, 3) := by decide +kernel
theorem dX11_restore_13 : decode cX11_restore 13 = .ok (.iload_n 1, 1) := by decide +kernel
theorem dX11_restore_14 : decode cX11_restore 14 = .ok (.baload, 1) := by decide +kernel
theorem dX11_restore_15 : decode cX11_restore 15 = .ok (.ifCond .ne 5, 3) := by decide +kernel
theorem dX11_restore_18 : decode cX11_restore 18 = .ok (.iconst 0, 1) := by decide +kernel
theorem dX11_restore_19 : decode cX11_restore 19 = .ok (.ireturn, 1) := by decide +kernel
theorem dX11_restore_20 : decode cX11_restore 20 = .ok (.iconst 0, 1) := by decide +kernel
theorem dX11_restore_21 : decode cX11_restore 21 = .ok (.istore_n 2, 1) := by decide +kernel
theorem dX11_restore_22 : decode cX11_restore 22 = .ok (.iload_n 2, 1) := by decide +kernel
theorem dX11_restore_23 : decode cX11_restore 23 = .ok (.bipush 31, 2) := by decide +kernel
theorem dX11_restore_25 : decode cX11_restore 25 = .ok (.if_icmp .ge 26, 3) := by decide +kernel
theorem dX11_restore_28 : decode cX11_restore 28 = .ok (.aload_n 0, 1) := by decide +kernel
theorem dX11_restore_29 : decode cX11_restore 29 = .ok (.getfield 116, 3) := by decide +kernel
theorem dX11_restore_32 : decode cX11_restore 32 = .ok (.iload_n 2, 1) := by decide +kernel
theorem dX11_restore_33 : decode cX11_restore 33 = .ok (.aload_n 0, 1) := by decide +kernel
theorem dX11_restore_34 : decode cX11_restore 34 = .ok (.getfield 152, 3) := by decide +kernel
theorem dX11_restore_37 : decode cX11_restore 37 = .ok (.bipush 31, 2) := by decide +kernel
theorem dX11_restore_39 : decode cX11_restore 39 = .ok (.iload_n 1, 1) := by decide +kernel
theorem dX11_restore_40 : decode cX11_restore 40 = .ok (.imul, 1) := by decide +kernel
theorem dX11_restore_41 : decode cX11_restore 41 = .ok (.iload_n 2, 1) := by decide +kernel
theorem dX11_restore_42 : decode cX11_restore 42 = .ok (.iadd, 1) := by decide +kernel
theorem dX11_restore_43 : decode cX11_restore 43 = .ok (.iaload, 1) := by decide +kernel
theorem dX11_restore_44 : decode cX11_restore 44 = .ok (.iastore, 1) := by decide +kernel
theorem dX11_restore_45 : decode cX11_restore 45 = .ok (.iinc 2 1, 3) := by decide +kernel
theorem dX11_restore_48 : decode cX11_restore 48 = .ok (.goto (-26), 3) := by decide +kernel
theorem dX11_restore_51 : decode cX11_restore 51 = .ok (.aload_n 0, 1) := by decide +kernel
theorem dX11_restore_52 : decode cX11_restore 52 = .ok (.iconst 0, 1) := by decide +kernel
theorem dX11_restore_53 : decode cX11_restore 53 = .ok (.putfield 254, 3) := by decide +kernel
theorem dX11_restore_56 : decode cX11_restore 56 = .ok (.iconst 1, 1) := by decide +kernel
theorem dX11_restore_57 : decode cX11_restore 57 = .ok (.ireturn, 1) := by decide +kernel
theorem dX11_sumNow_0 : decode cX11_sumNow 0 = .ok (.iconst 0, 1) := by decide +kernel
theorem dX11_sumNow_1 : decode cX11_sumNow 1 = .ok (.istore_n 3, 1) := by decide +kernel
theorem dX11_sumNow_2 : decode cX11_sumNow 2 = .ok (.iload_n 1, 1) := by decide +kernel
theorem dX11_sumNow_3 : decode cX11_sumNow 3 = .ok (.istore 4, 2) := by decide +kernel
theorem dX11_sumNow_5 : decode cX11_sumNow 5 = .ok (.iload 4, 2) := by decide +kernel
theorem dX11_sumNow_7 : decode cX11_sumNow 7 = .ok (.iload_n 1, 1) := by decide +kernel
theorem dX11_sumNow_8 : decode cX11_sumNow 8 = .ok (.iload_n 2, 1) := by decide +kernel
theorem dX11_sumNow_9 : decode cX11_sumNow 9 = .ok (.iadd, 1) := by decide +kernel
theorem dX11_sumNow_10 : decode cX11_sumNow 10 = .ok (.if_icmp .ge 19, 3) := by decide +kernel
theorem dX11_sumNow_13 : decode cX11_sumNow 13 = .ok (.iload_n 3, 1) := by decide +kernel
theorem dX11_sumNow_14 : decode cX11_sumNow 14 = .ok (.aload_n 0, 1) := by decide +kernel
theorem dX11_sumNow_15 : decode cX11_sumNow 15 = .ok (.getfield 116, 3) := by decide +kernel
theorem dX11_sumNow_18 : decode cX11_sumNow 18 = .ok (.iload 4, 2) := by decide +kernel
theorem dX11_sumNow_20 : decode cX11_sumNow 20 = .ok (.iaload, 1) := by decide +kernel
theorem dX11_sumNow_21 : decode cX11_sumNow 21 = .ok (.iadd, 1) := by decide +kernel
theorem dX11_sumNow_22 : decode cX11_sumNow 22 = .ok (.istore_n 3, 1) := by decide +kernel
theorem dX11_sumNow_23 : decode cX11_sumNow 23 = .ok (.iinc 4 1, 3) := by decide +kernel
theorem dX11_sumNow_26 : decode cX11_sumNow 26 = .ok (.goto (-21), 3) := by decide +kernel
theorem dX11_sumNow_29 : decode cX11_sumNow 29 = .ok (.iload_n 3, 1) := by decide +kernel
theorem dX11_sumNow_30 : decode cX11_sumNow 30 = .ok (.ireturn, 1) := by decide +kernel
theorem dX11_count_0 : decode cX11_count 0 = .ok (.aload_n 0, 1) := by decide +kernel
theorem dX11_count_1 : decode cX11_count 1 = .ok (.invokevirtual 326, 3) := by decide +kernel
theorem dX11_count_4 : decode cX11_count 4 = .ok (.iconst 0, 1) := by decide +kernel
theorem dX11_count_5 : decode cX11_count 5 = .ok (.istore_n 2, 1) := by decide +kernel
theorem dX11_count_6 : decode cX11_count 6 = .ok (.iload_n 1, 1) := by decide +kernel
theorem dX11_count_7 : decode cX11_count 7 = .ok (.tableswitch 516 0 18 #[89, 99, 109, 117, 125, 163, 184, 221, 226, 231, 236, 241, 286, 294, 303, 339, 376, 413, 464], 89) := by decide +kernel
theorem dX11_count_96 : decode cX11_count 96 = .ok (.aload_n 0, 1) := by decide +kernel
theorem dX11_count_97 : decode cX11_count 97 = .ok (.getfield 46, 3) := by decide +kernel
theorem dX11_count_100 : decode cX11_count 100 = .ok (.aload_n 0, 1) := by decide +kernel
theorem dX11_count_101 : decode cX11_count 101 = .ok (.getfield 236, 3) := by decide +kernel
theorem dX11_count_104 : decode cX11_count 104 = .ok (.iaload, 1) := by decide +kernel
theorem dX11_count_105 : decode cX11_count 105 = .ok (.ireturn, 1) := by decide +kernel
theorem dX11_count_106 : decode cX11_count 106 = .ok (.aload_n 0, 1) := by decide +kernel
theorem dX11_count_107 : decode cX11_count 107 = .ok (.getfield 55, 3) := by decide +kernel
theorem dX11_count_110 : decode cX11_count 110 = .ok (.aload_n 0, 1) := by decide +kernel
theorem dX11_count_111 : decode cX11_count 111 = .ok (.getfield 236, 3) := by decide +kernel
theorem dX11_count_114 : decode cX11_count 114 = .ok (.iaload, 1) := by decide +kernel
theorem dX11_count_115 : decode cX11_count 115 = .ok (.ireturn, 1) := by decide +kernel
theorem dX11_count_116 : decode cX11_count 116 = .ok (.aload_n 0, 1) := by decide +kernel
theorem dX11_count_117 : decode cX11_count 117 = .ok (.getfield 119, 3) := by decide +kernel
theorem dX11_count_120 : decode cX11_count 120 = .ok (.bipush 29, 2) := by decide +kernel
theorem dX11_count_122 : decode cX11_count 122 = .ok (.iaload, 1) := by decide +kernel
theorem dX11_count_123 : decode cX11_count 123 = .ok (.ireturn, 1) := by decide +kernel
theorem dX11_count_124 : decode cX11_count 124 = .ok (.aload_n 0, 1) := by decide +kernel
theorem dX11_count_125 : decode cX11_count 125 = .ok (.getfield 119, 3) := by decide +kernel
theorem dX11_count_128 : decode cX11_count 128 = .ok (.bipush 30, 2) := by decide +kernel
theorem dX11_count_130 : decode cX11_count 130 = .ok (.iaload, 1) := by decide +kernel
theorem dX11_count_131 : decode cX11_count 131 = .ok (.ireturn, 1) := by decide +kernel
theorem dX11_count_132 : decode cX11_count 132 = .ok (.iconst 0, 1) := by decide +kernel
theorem dX11_count_133 : decode cX11_count 133 = .ok (.istore_n 3, 1) := by decide +kernel
theorem dX11_count_134 : decode cX11_count 134 = .ok (.iload_n 3, 1) := by decide +kernel
theorem dX11_count_135 : decode cX11_count 135 = .ok (.aload_n 0, 1) := by decide +kernel
theorem dX11_count_136 : decode cX11_count 136 = .ok (.getfield 55, 3) := by decide +kernel
theorem dX11_count_139 : decode cX11_count 139 = .ok (.aload_n 0, 1) := by decide +kernel
theorem dX11_count_140 : decode cX11_count 140 = .ok (.getfield 236, 3) := by decide +kernel
theorem dX11_count_143 : decode cX11_count 143 = .ok (.iaload, 1) := by decide +kernel
theorem dX11_count_144 : decode cX11_count 144 = .ok (.if_icmp .ge 24, 3) := by decide +kernel
theorem dX11_count_147 : decode cX11_count 147 = .ok (.aload_n 0, 1) := by decide +kernel
theorem dX11_count_148 : decode cX11_count 148 = .ok (.getfield 119, 3) := by decide +kernel
theorem dX11_count_151 : decode cX11_count 151 = .ok (.iload_n 3, 1) := by decide +kernel
theorem dX11_count_152 : decode cX11_count 152 = .ok (.iaload, 1) := by decide +kernel
theorem dX11_count_153 : decode cX11_count 153 = .ok (.ifCond .lt 9, 3) := by decide +kernel
theorem dX11_count_156 : decode cX11_count 156 = .ok (.iload_n 2, 1) := by decide +kernel
theorem dX11_count_157 : decode cX11_count 157 = .ok (.iconst 1, 1) := by decide +kernel
theorem dX11_count_158 : decode cX11_count 158 = .ok (.iload_n 3, 1) := by decide +kernel
theorem dX11_count_159 : decode cX11_count 159 = .ok (.ishl, 1) := by decide +kernel
theorem dX11_count_160 : decode cX11_count 160 = .ok (.ior, 1) := by decide +kernel
theorem dX11_count_161 : decode cX11_count 161 = .ok (.istore_n 2, 1) := by decide +kernel
theorem dX11_count_162 : decode cX11_count 162 = .ok (.iinc 3 1, 3) := by decide +kernel
theorem dX11_count_165 : decode cX11_count 165 = .ok (.goto (-31), 3) := by decide +kernel
theorem dX11_count_168 : decode cX11_count 168 = .ok (.iload_n 2, 1) := by decide +kernel
theorem dX11_count_169 : decode cX11_count 169 = .ok (.ireturn, 1) := by decide +kernel
theorem dX11_count_170 : decode cX11_count 170 = .ok (.iconst 1, 1) := by decide +kernel
theorem dX11_count_171 : decode cX11_count 171 = .ok (.aload_n 0, 1) := by decide +kernel
theorem dX11_count_172 : decode cX11_count 172 = .ok (.getfield 55, 3) := by decide +kernel
theorem dX11_count_175 : decode cX11_count 175 = .ok (.aload_n 0, 1) := by decide +kernel
theorem dX11_count_176 : decode cX11_count 176 = .ok (.getfield 236, 3) := by decide +kernel
theorem dX11_count_179 : decode cX11_count 179 = .ok (.iaload, 1) := by decide +kernel
theorem dX11_count_180 : decode cX11_count 180 = .ok (.ishl, 1) := by decide +kernel
theorem dX11_count_181 : decode cX11_count 181 = .ok (.iconst 1, 1) := by decide +kernel
theorem dX11_count_182 : decode cX11_count 182 = .ok (.isub, 1) := by decide +kernel
theorem dX11_count_183 : decode cX11_count 183 = .ok (.aload_n 0, 1) := by decide +kernel
theorem dX11_count_184 : decode cX11_count 184 = .ok (.invokevirtual 455, 3) := by decide +kernel
theorem dX11_count_187 : decode cX11_count 187 = .ok (.iconst (-1), 1) := by decide +kernel
theorem dX11_count_188 : decode cX11_count 188 = .ok (.ixor, 1) := by decide +kernel
theorem dX11_count_189 : decode cX11_count 189 = .ok (.iand, 1) := by decide +kernel
theorem dX11_count_190 : decode cX11_count 190 = .ok (.ireturn, 1) := by decide +kernel
theorem dX11_count_191 : decode cX11_count 191 = .ok (.iconst 0, 1) := by decide +kernel
theorem dX11_count_192 : decode cX11_count 192 = .ok (.istore_n 3, 1) := by decide +kernel
theorem dX11_count_193 : decode cX11_count 193 = .ok (.iload_n 3, 1) := by decide +kernel
theorem dX11_count_194 : decode cX11_count 194 = .ok (.aload_n 0, 1) := by decide +kernel
theorem dX11_count_195 : decode cX11_count 195 = .ok (.getfield 46, 3) := by decide +kernel
theorem dX11_count_198 : decode cX11_count 198 = .ok (.aload_n 0, 1) := by decide +kernel
theorem dX11_count_199 : decode cX11_count 199 = .ok (.getfield 236, 3) := by decide +kernel
theorem dX11_count_202 : decode cX11_count 202 = .ok (.iaload, 1) := by decide +kernel
theorem dX11_count_203 : decode cX11_count 203 = .ok (.if_icmp .ge 23, 3) := by decide +kernel
theorem dX11_count_206 : decode cX11_count 206 = .ok (.iload_n 2, 1) := by decide +kernel
theorem dX11_count_207 : decode cX11_count 207 = .ok (.aload_n 0, 1) := by decide +kernel
theorem dX11_count_208 : decode cX11_count 208 = .ok (.getfield 119, 3) := by decide +kernel
theorem dX11_count_211 : decode cX11_count 211 = .ok (.bipush 25, 2) := by decide +kernel
theorem dX11_count_213 : decode cX11_count 213 = .ok (.iload_n 3, 1) := by decide +kernel
theorem dX11_count_214 : decode cX11_count 214 = .ok (.iadd, 1) := by decide +kernel
theorem dX11_count_215 : decode cX11_count 215 = .ok (.iaload, 1) := by decide +kernel
theorem dX11_count_216 : decode cX11_count 216 = .ok (.iload_n 3, 1) := by decide +kernel
theorem dX11_count_217 : decode cX11_count 217 = .ok (.ishl, 1) := by decide +kernel
theorem dX11_count_218 : decode cX11_count 218 = .ok (.ior, 1) := by decide +kernel
theorem dX11_count_219 : decode cX11_count 219 = .ok (.istore_n 2, 1) := by decide +kernel
theorem dX11_count_220 : decode cX11_count 220 = .ok (.iinc 3 1, 3) := by decide +kernel
theorem dX11_count_223 : decode cX11_count 223 = .ok (.goto (-30), 3) := by decide +kernel
theorem dX11_count_226 : decode cX11_count 226 = .ok (.iload_n 2, 1) := by decide +kernel
theorem dX11_count_227 : decode cX11_count 227 = .ok (.ireturn, 1) := by decide +kernel
theorem dX11_count_228 : decode cX11_count 228 = .ok (.aload_n 0, 1) := by decide +kernel
theorem dX11_count_229 : decode cX11_count 229 = .ok (.invokevirtual 386, 3) := by decide +kernel
theorem dX11_count_232 : decode cX11_count 232 = .ok (.ireturn, 1) := by decide +kernel
theorem dX11_count_233 : decode cX11_count 233 = .ok (.aload_n 0, 1) := by decide +kernel
theorem dX11_count_234 : decode cX11_count 234 = .ok (.getfield 169, 3) := by decide +kernel
theorem dX11_count_237 : decode cX11_count 237 = .ok (.ireturn, 1) := by decide +kernel
theorem dX11_count_238 : decode cX11_count 238 = .ok (.aload_n 0, 1) := by decide +kernel
theorem dX11_count_239 : decode cX11_count 239 = .ok (.getfield 254, 3) := by decide +kernel
theorem dX11_count_242 : decode cX11_count 242 = .ok (.ireturn, 1) := by decide +kernel
theorem dX11_count_243 : decode cX11_count 243 = .ok (.aload_n 0, 1) := by decide +kernel
theorem dX11_count_244 : decode cX11_count 244 = .ok (.getfield 257, 3) := by decide +kernel
theorem dX11_count_247 : decode cX11_count 247 = .ok (.ireturn, 1) := by decide +kernel
theorem dX11_count_248 : decode cX11_count 248 = .ok (.aload_n 0, 1) := by decide +kernel
theorem dX11_count_249 : decode cX11_count 249 = .ok (.getfield 149, 3) := by decide +kernel
theorem dX11_count_252 : decode cX11_count 252 = .ok (.iconst 0, 1) := by decide +kernel
theorem dX11_count_253 : decode cX11_count 253 = .ok (.baload, 1) := by decide +kernel
theorem dX11_count_254 : decode cX11_count 254 = .ok (.ifCond .eq 7, 3) := by decide +kernel
theorem dX11_count_257 : decode cX11_count 257 = .ok (.iconst 1, 1) := by decide +kernel
theorem dX11_count_258 : decode cX11_count 258 = .ok (.goto 4, 3) := by decide +kernel
theorem dX11_count_261 : decode cX11_count 261 = .ok (.iconst 0, 1) := by decide +kernel
theorem dX11_count_262 : decode cX11_count 262 = .ok (.aload_n 0, 1) := by decide +kernel
theorem dX11_count_263 : decode cX11_count 263 = .ok (.getfield 149, 3) := by decide +kernel
theorem dX11_count_266 : decode cX11_count 266 = .ok (.iconst 1, 1) := by decide +kernel
theorem dX11_count_267 : decode cX11_count 267 = .ok (.baload, 1) := by decide +kernel
theorem dX11_count_268 : decode cX11_count 268 = .ok (.ifCond .eq 7, 3) := by decide +kernel
theorem dX11_count_271 : decode cX11_count 271 = .ok (.iconst 1, 1) := by decide +kernel
theorem dX11_count_272 : decode cX11_count 272 = .ok (.goto 4, 3) := by decide +kernel
theorem dX11_count_275 : decode cX11_count 275 = .ok (.iconst 0, 1) := by decide +kernel
theorem dX11_count_276 : decode cX11_count 276 = .ok (.iadd, 1) := by decide +kernel
theorem dX11_count_277 : decode cX11_count 277 = .ok (.aload_n 0, 1) := by decide +kernel
theorem dX11_count_278 : decode cX11_count 278 = .ok (.getfield 149, 3) := by decide +kernel
theorem dX11_count_281 : decode cX11_count 281 = .ok (.iconst 2, 1) := by decide +kernel
theorem dX11_count_282 : decode cX11_count 282 = .ok (.baload, 1) := by decide +kernel
theorem dX11_count_283 : decode cX11_count 283 = .ok (.ifCond .eq 7, 3) := by decide +kernel
theorem dX11_count_286 : decode cX11_count 286 = .ok (.iconst 1, 1) := by decide +kernel
theorem dX11_count_287 : decode cX11_count 287 = .ok (.goto 4, 3) := by decide +kernel
theorem dX11_count_290 : decode cX11_count 290 = .ok (.iconst 0, 1) := by decide +kernel
theorem dX11_count_291 : decode cX11_count 291 = .ok (.iadd, 1) := by decide +kernel
theorem dX11_count_292 : decode cX11_count 292 = .ok (.ireturn, 1) := by decide +kernel
theorem dX11_count_293 : decode cX11_count 293 = .ok (.aload_n 0, 1) := by decide +kernel
theorem dX11_count_294 : decode cX11_count 294 = .ok (.bipush 21, 2) := by decide +kernel
theorem dX11_count_296 : decode cX11_count 296 = .ok (.iconst 4, 1) := by decide +kernel
theorem dX11_count_297 : decode cX11_count 297 = .ok (.invokevirtual 488, 3) := by decide +kernel
theorem dX11_count_300 : decode cX11_count 300 = .ok (.ireturn, 1) := by decide +kernel
theorem dX11_count_301 : decode cX11_count 301 = .ok (.aload_n 0, 1) := by decide +kernel
theorem dX11_count_302 : decode cX11_count 302 = .ok (.bipush 7, 2) := by decide +kernel
theorem dX11_count_304 : decode cX11_count 304 = .ok (.bipush 7, 2) := by decide +kernel
theorem dX11_count_306 : decode cX11_count 306 = .ok (.invokevirtual 488, 3) := by decide +kernel
theorem dX11_count_309 : decode cX11_count 309 = .ok (.ireturn, 1) := by decide +kernel
theorem dX11_count_310 : decode cX11_count 310 = .ok (.iconst 0, 1) := by decide +kernel
theorem dX11_count_311 : decode cX11_count 311 = .ok (.istore_n 3, 1) := by decide +kernel
theorem dX11_count_312 : decode cX11_count 312 = .ok (.iload_n 3, 1) := by decide +kernel
theorem dX11_count_313 : decode cX11_count 313 = .ok (.aload_n 0, 1) := by decide +kernel
theorem dX11_count_314 : decode cX11_count 314 = .ok (.getfield 55, 3) := by decide +kernel
theorem dX11_count_317 : decode cX11_count 317 = .ok (.aload_n 0, 1) := by decide +kernel
theorem dX11_count_318 : decode cX11_count 318 = .ok (.getfield 236, 3) := by decide +kernel
theorem dX11_count_321 : decode cX11_count 321 = .ok (.iaload, 1) := by decide +kernel
theorem dX11_count_322 : decode cX11_count 322 = .ok (.if_icmp .ge 20, 3) := by decide +kernel
theorem dX11_count_325 : decode cX11_count 325 = .ok (.iload_n 2, 1) := by decide +kernel
theorem dX11_count_326 : decode cX11_count 326 = .ok (.aload_n 0, 1) := by decide +kernel
theorem dX11_count_327 : decode cX11_count 327 = .ok (.iload_n 3, 1) := by decide +kernel
theorem dX11_count_328 : decode cX11_count 328 = .ok (.invokevirtual 419, 3) := by decide +kernel
theorem dX11_count_331 : decode cX11_count 331 = .ok (.invokestatic 365, 3) := by decide +kernel
theorem dX11_count_334 : decode cX11_count 334 = .ok (.iadd, 1) := by decide +kernel
theorem dX11_count_335 : decode cX11_count 335 = .ok (.istore_n 2, 1) := by decide +kernel
theorem dX11_count_336 : decode cX11_count 336 = .ok (.iinc 3 1, 3) := by decide +kernel
theorem dX11_count_339 : decode cX11_count 339 = .ok (.goto (-27), 3) := by decide +kernel
theorem dX11_count_342 : decode cX11_count 342 = .ok (.iload_n 2, 1) := by decide +kernel
theorem dX11_count_343 : decode cX11_count 343 = .ok (.iconst 2, 1) := by decide +kernel
theorem dX11_count_344 : decode cX11_count 344 = .ok (.idiv, 1) := by decide +kernel
theorem dX11_count_345 : decode cX11_count 345 = .ok (.ireturn, 1) := by decide +kernel
theorem dX11_count_346 : decode cX11_count 346 = .ok (.iconst 0, 1) := by decide +kernel
theorem dX11_count_347 : decode cX11_count 347 = .ok (.istore_n 3, 1) := by decide +kernel
theorem dX11_count_348 : decode cX11_count 348 = .ok (.iload_n 3, 1) := by decide +kernel
theorem dX11_count_349 : decode cX11_count 349 = .ok (.aload_n 0, 1) := by decide +kernel
theorem dX11_count_350 : decode cX11_count 350 = .ok (.getfield 46, 3) := by decide +kernel
theorem dX11_count_353 : decode cX11_count 353 = .ok (.aload_n 0, 1) := by decide +kernel
theorem dX11_count_354 : decode cX11_count 354 = .ok (.getfield 236, 3) := by decide +kernel
theorem dX11_count_357 : decode cX11_count 357 = .ok (.iaload, 1) := by decide +kernel
theorem dX11_count_358 : decode cX11_count 358 = .ok (.if_icmp .ge 23, 3) := by decide +kernel
theorem dX11_count_361 : decode cX11_count 361 = .ok (.aload_n 0, 1) := by decide +kernel
theorem dX11_count_362 : decode cX11_count 362 = .ok (.iload_n 3, 1) := by decide +kernel
theorem dX11_count_363 : decode cX11_count 363 = .ok (.invokevirtual 362, 3) := by decide +kernel
theorem dX11_count_366 : decode cX11_count 366 = .ok (.ifCond .eq 9, 3) := by decide +kernel
theorem dX11_count_369 : decode cX11_count 369 = .ok (.iload_n 2, 1) := by decide +kernel
theorem dX11_count_370 : decode cX11_count 370 = .ok (.iconst 1, 1) := by decide +kernel
theorem dX11_count_371 : decode cX11_count 371 = .ok (.iload_n 3, 1) := by decide +kernel
theorem dX11_count_372 : decode cX11_count 372 = .ok (.ishl, 1) := by decide +kernel
theorem dX11_count_373 : decode cX11_count 373 = .ok (.ior, 1) := by decide +kernel
theorem dX11_count_374 : decode cX11_count 374 = .ok (.istore_n 2, 1) := by decide +kernel
theorem dX11_count_375 : decode cX11_count 375 = .ok (.iinc 3 1, 3) := by decide +kernel
theorem dX11_count_378 : decode cX11_count 378 = .ok (.goto (-30), 3) := by decide +kernel
theorem dX11_count_381 : decode cX11_count 381 = .ok (.iload_n 2, 1) := by decide +kernel
theorem dX11_count_382 : decode cX11_count 382 = .ok (.ireturn, 1) := by decide +kernel
theorem dX11_count_383 : decode cX11_count 383 = .ok (.iconst 0, 1) := by decide +kernel
theorem dX11_count_384 : decode cX11_count 384 = .ok (.istore_n 3, 1) := by decide +kernel
theorem dX11_count_385 : decode cX11_count 385 = .ok (.iload_n 3, 1) := by decide +kernel
theorem dX11_count_386 : decode cX11_count 386 = .ok (.aload_n 0, 1) := by decide +kernel
theorem dX11_count_387 : decode cX11_count 387 = .ok (.getfield 55, 3) := by decide +kernel
theorem dX11_count_390 : decode cX11_count 390 = .ok (.aload_n 0, 1) := by decide +kernel
theorem dX11_count_391 : decode cX11_count 391 = .ok (.getfield 236, 3) := by decide +kernel
theorem dX11_count_394 : decode cX11_count 394 = .ok (.iaload, 1) := by decide +kernel
theorem dX11_count_395 : decode cX11_count 395 = .ok (.if_icmp .ge 23, 3) := by decide +kernel
theorem dX11_count_398 : decode cX11_count 398 = .ok (.aload_n 0, 1) := by decide +kernel
theorem dX11_count_399 : decode cX11_count 399 = .ok (.iload_n 3, 1) := by decide +kernel
theorem dX11_count_400 : decode cX11_count 400 = .ok (.invokevirtual 470, 3) := by decide +kernel
theorem dX11_count_403 : decode cX11_count 403 = .ok (.ifCond .eq 9, 3) := by decide +kernel
theorem dX11_count_406 : decode cX11_count 406 = .ok (.iload_n 2, 1) := by decide +kernel
theorem dX11_count_407 : decode cX11_count 407 = .ok (.iconst 1, 1) := by decide +kernel
theorem dX11_count_408 : decode cX11_count 408 = .ok (.iload_n 3, 1) := by decide +kernel
theorem dX11_count_409 : decode cX11_count 409 = .ok (.ishl, 1) := by decide +kernel
theorem dX11_count_410 : decode cX11_count 410 = .ok (.ior, 1) := by decide +kernel
theorem dX11_count_411 : decode cX11_count 411 = .ok (.istore_n 2, 1) := by decide +kernel
theorem dX11_count_412 : decode cX11_count 412 = .ok (.iinc 3 1, 3) := by decide +kernel
theorem dX11_count_415 : decode cX11_count 415 = .ok (.goto (-30), 3) := by decide +kernel
theorem dX11_count_418 : decode cX11_count 418 = .ok (.iload_n 2, 1) := by decide +kernel
theorem dX11_count_419 : decode cX11_count 419 = .ok (.ireturn, 1) := by decide +kernel
theorem dX11_count_420 : decode cX11_count 420 = .ok (.iconst 0, 1) := by decide +kernel
theorem dX11_count_421 : decode cX11_count 421 = .ok (.istore_n 3, 1) := by decide +kernel
