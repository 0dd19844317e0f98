theorem dX4_readTell_152 : decode cX4_readTell 152 = .ok (.aload_n 0, 1) := by decide +kernel
theorem dX4_readTell_153 : decode cX4_readTell 153 = .ok (.iconst 4, 1) := by decide +kernel
theorem dX4_readTell_154 : decode cX4_readTell 154 = .ok (.invokevirtual 78, 3) := by decide +kernel
theorem dX4_readTell_157 : decode cX4_readTell 157 = .ok (.ifCond .eq 7, 3) := by decide +kernel
theorem dX4_readTell_160 : decode cX4_readTell 160 = .ok (.iconst 1, 1) := by decide +kernel
theorem dX4_readTell_161 : decode cX4_readTell 161 = .ok (.goto 4, 3) := by decide +kernel
theorem dX4_readTell_164 : decode cX4_readTell 164 = .ok (.iconst 0, 1) := by decide +kernel
theorem dX4_readTell_165 : decode cX4_readTell 165 = .ok (.istore_n 3, 1) := by decide +kernel
theorem dX4_readTell_166 : decode cX4_readTell 166 = .ok (.aload_n 1, 1) := by decide +kernel
theorem dX4_readTell_167 : decode cX4_readTell 167 = .ok (.iload_n 3, 1) := by decide +kernel
theorem dX4_readTell_168 : decode cX4_readTell 168 = .ok (.ifCond .eq 11, 3) := by decide +kernel
theorem dX4_readTell_171 : decode cX4_readTell 171 = .ok (.aload_n 0, 1) := by decide +kernel
theorem dX4_readTell_172 : decode cX4_readTell 172 = .ok (.iconst 2, 1) := by decide +kernel
theorem dX4_readTell_173 : decode cX4_readTell 173 = .ok (.invokevirtual 86, 3) := by decide +kernel
theorem dX4_readTell_176 : decode cX4_readTell 176 = .ok (.goto 7, 3) := by decide +kernel
theorem dX4_readTell_179 : decode cX4_readTell 179 = .ok (.aload_n 1, 1) := by decide +kernel
theorem dX4_readTell_180 : decode cX4_readTell 180 = .ok (.getfield 93, 3) := by decide +kernel
theorem dX4_readTell_183 : decode cX4_readTell 183 = .ok (.putfield 93, 3) := by decide +kernel
theorem dX4_readTell_186 : decode cX4_readTell 186 = .ok (.iload_n 3, 1) := by decide +kernel
theorem dX4_readTell_187 : decode cX4_readTell 187 = .ok (.ireturn, 1) := by decide +kernel
theorem dX4_readTell_188 : decode cX4_readTell 188 = .ok (.aload_n 0, 1) := by decide +kernel
theorem dX4_readTell_189 : decode cX4_readTell 189 = .ok (.iconst 1, 1) := by decide +kernel
theorem dX4_readTell_190 : decode cX4_readTell 190 = .ok (.invokevirtual 96, 3) := by decide +kernel
theorem dX4_readTell_193 : decode cX4_readTell 193 = .ok (.ireturn, 1) := by decide +kernel
theorem dX4_readSunday_0 : decode cX4_readSunday 0 = .ok (.aload_n 1, 1) := by decide +kernel
theorem dX4_readSunday_1 : decode cX4_readSunday 1 = .ok (.getfield 99, 3) := by decide +kernel
theorem dX4_readSunday_4 : decode cX4_readSunday 4 = .ok (.iconst 4, 1) := by decide +kernel
theorem dX4_readSunday_5 : decode cX4_readSunday 5 = .ok (.if_icmp .lt 9, 3) := by decide +kernel
theorem dX4_readSunday_8 : decode cX4_readSunday 8 = .ok (.aload_n 0, 1) := by decide +kernel
theorem dX4_readSunday_9 : decode cX4_readSunday 9 = .ok (.iconst 2, 1) := by decide +kernel
theorem dX4_readSunday_10 : decode cX4_readSunday 10 = .ok (.invokevirtual 96, 3) := by decide +kernel
theorem dX4_readSunday_13 : decode cX4_readSunday 13 = .ok (.ireturn, 1) := by decide +kernel
theorem dX4_readSunday_14 : decode cX4_readSunday 14 = .ok (.aload_n 0, 1) := by decide +kernel
theorem dX4_readSunday_15 : decode cX4_readSunday 15 = .ok (.bipush 13, 2) := by decide +kernel
theorem dX4_readSunday_17 : decode cX4_readSunday 17 = .ok (.invokevirtual 78, 3) := by decide +kernel
theorem dX4_readSunday_20 : decode cX4_readSunday 20 = .ok (.ifCond .eq 39, 3) := by decide +kernel
theorem dX4_readSunday_23 : decode cX4_readSunday 23 = .ok (.aload_n 0, 1) := by decide +kernel
theorem dX4_readSunday_24 : decode cX4_readSunday 24 = .ok (.aload_n 1, 1) := by decide +kernel
theorem dX4_readSunday_25 : decode cX4_readSunday 25 = .ok (.invokevirtual 102, 3) := by decide +kernel
theorem dX4_readSunday_28 : decode cX4_readSunday 28 = .ok (.ifCond .eq 31, 3) := by decide +kernel
theorem dX4_readSunday_31 : decode cX4_readSunday 31 = .ok (.aload_n 0, 1) := by decide +kernel
theorem dX4_readSunday_32 : decode cX4_readSunday 32 = .ok (.iconst 1, 1) := by decide +kernel
theorem dX4_readSunday_33 : decode cX4_readSunday 33 = .ok (.bipush 24, 2) := by decide +kernel
theorem dX4_readSunday_35 : decode cX4_readSunday 35 = .ok (.invokevirtual 82, 3) := by decide +kernel
theorem dX4_readSunday_38 : decode cX4_readSunday 38 = .ok (.ifCond .eq 21, 3) := by decide +kernel
theorem dX4_readSunday_41 : decode cX4_readSunday 41 = .ok (.aload_n 0, 1) := by decide +kernel
theorem dX4_readSunday_42 : decode cX4_readSunday 42 = .ok (.iconst 0, 1) := by decide +kernel
theorem dX4_readSunday_43 : decode cX4_readSunday 43 = .ok (.bipush 99, 2) := by decide +kernel
theorem dX4_readSunday_45 : decode cX4_readSunday 45 = .ok (.invokevirtual 82, 3) := by decide +kernel
theorem dX4_readSunday_48 : decode cX4_readSunday 48 = .ok (.ifCond .eq 11, 3) := by decide +kernel
theorem dX4_readSunday_51 : decode cX4_readSunday 51 = .ok (.aload_n 0, 1) := by decide +kernel
theorem dX4_readSunday_52 : decode cX4_readSunday 52 = .ok (.iconst 4, 1) := by decide +kernel
theorem dX4_readSunday_53 : decode cX4_readSunday 53 = .ok (.invokevirtual 78, 3) := by decide +kernel
theorem dX4_readSunday_56 : decode cX4_readSunday 56 = .ok (.ifCond .ne 5, 3) := by decide +kernel
theorem dX4_readSunday_59 : decode cX4_readSunday 59 = .ok (.iconst 0, 1) := by decide +kernel
theorem dX4_readSunday_60 : decode cX4_readSunday 60 = .ok (.ireturn, 1) := by decide +kernel
theorem dX4_readSunday_61 : decode cX4_readSunday 61 = .ok (.aload_n 1, 1) := by decide +kernel
theorem dX4_readSunday_62 : decode cX4_readSunday 62 = .ok (.aload_n 0, 1) := by decide +kernel
theorem dX4_readSunday_63 : decode cX4_readSunday 63 = .ok (.getfield 21, 3) := by decide +kernel
theorem dX4_readSunday_66 : decode cX4_readSunday 66 = .ok (.getfield 105, 3) := by decide +kernel
theorem dX4_readSunday_69 : decode cX4_readSunday 69 = .ok (.aload_n 0, 1) := by decide +kernel
theorem dX4_readSunday_70 : decode cX4_readSunday 70 = .ok (.getfield 25, 3) := by decide +kernel
theorem dX4_readSunday_73 : decode cX4_readSunday 73 = .ok (.iconst 4, 1) := by decide +kernel
theorem dX4_readSunday_74 : decode cX4_readSunday 74 = .ok (.isub, 1) := by decide +kernel
theorem dX4_readSunday_75 : decode cX4_readSunday 75 = .ok (.laload, 1) := by decide +kernel
theorem dX4_readSunday_76 : decode cX4_readSunday 76 = .ok (.aload_n 0, 1) := by decide +kernel
theorem dX4_readSunday_77 : decode cX4_readSunday 77 = .ok (.iconst 3, 1) := by decide +kernel
theorem dX4_readSunday_78 : decode cX4_readSunday 78 = .ok (.invokevirtual 86, 3) := by decide +kernel
theorem dX4_readSunday_81 : decode cX4_readSunday 81 = .ok (.aload_n 0, 1) := by decide +kernel
theorem dX4_readSunday_82 : decode cX4_readSunday 82 = .ok (.iconst 2, 1) := by decide +kernel
theorem dX4_readSunday_83 : decode cX4_readSunday 83 = .ok (.invokevirtual 86, 3) := by decide +kernel
theorem dX4_readSunday_86 : decode cX4_readSunday 86 = .ok (.invokevirtual 109, 3) := by decide +kernel
theorem dX4_readSunday_89 : decode cX4_readSunday 89 = .ok (.iconst 1, 1) := by decide +kernel
theorem dX4_readSunday_90 : decode cX4_readSunday 90 = .ok (.ireturn, 1) := by decide +kernel
theorem dX4_readGuest_0 : decode cX4_readGuest 0 = .ok (.aload_n 1, 1) := by decide +kernel
theorem dX4_readGuest_1 : decode cX4_readGuest 1 = .ok (.getfield 113, 3) := by decide +kernel
theorem dX4_readGuest_4 : decode cX4_readGuest 4 = .ok (.bipush 7, 2) := by decide +kernel
theorem dX4_readGuest_6 : decode cX4_readGuest 6 = .ok (.if_icmp .lt 9, 3) := by decide +kernel
theorem dX4_readGuest_9 : decode cX4_readGuest 9 = .ok (.aload_n 0, 1) := by decide +kernel
theorem dX4_readGuest_10 : decode cX4_readGuest 10 = .ok (.iconst 2, 1) := by decide +kernel
theorem dX4_readGuest_11 : decode cX4_readGuest 11 = .ok (.invokevirtual 96, 3) := by decide +kernel
theorem dX4_readGuest_14 : decode cX4_readGuest 14 = .ok (.ireturn, 1) := by decide +kernel
theorem dX4_readGuest_15 : decode cX4_readGuest 15 = .ok (.aload_n 0, 1) := by decide +kernel
theorem dX4_readGuest_16 : decode cX4_readGuest 16 = .ok (.bipush 14, 2) := by decide +kernel
theorem dX4_readGuest_18 : decode cX4_readGuest 18 = .ok (.invokevirtual 78, 3) := by decide +kernel
theorem dX4_readGuest_21 : decode cX4_readGuest 21 = .ok (.ifCond .eq 49, 3) := by decide +kernel
theorem dX4_readGuest_24 : decode cX4_readGuest 24 = .ok (.aload_n 0, 1) := by decide +kernel
theorem dX4_readGuest_25 : decode cX4_readGuest 25 = .ok (.aload_n 1, 1) := by decide +kernel
theorem dX4_readGuest_26 : decode cX4_readGuest 26 = .ok (.invokevirtual 102, 3) := by decide +kernel
theorem dX4_readGuest_29 : decode cX4_readGuest 29 = .ok (.ifCond .eq 41, 3) := by decide +kernel
theorem dX4_readGuest_32 : decode cX4_readGuest 32 = .ok (.aload_n 0, 1) := by decide +kernel
theorem dX4_readGuest_33 : decode cX4_readGuest 33 = .ok (.iconst 0, 1) := by decide +kernel
theorem dX4_readGuest_34 : decode cX4_readGuest 34 = .ok (.bipush 23, 2) := by decide +kernel
theorem dX4_readGuest_36 : decode cX4_readGuest 36 = .ok (.invokevirtual 82, 3) := by decide +kernel
theorem dX4_readGuest_39 : decode cX4_readGuest 39 = .ok (.ifCond .eq 31, 3) := by decide +kernel
theorem dX4_readGuest_42 : decode cX4_readGuest 42 = .ok (.aload_n 0, 1) := by decide +kernel
theorem dX4_readGuest_43 : decode cX4_readGuest 43 = .ok (.iconst 1, 1) := by decide +kernel
theorem dX4_readGuest_44 : decode cX4_readGuest 44 = .ok (.bipush 12, 2) := by decide +kernel
theorem dX4_readGuest_46 : decode cX4_readGuest 46 = .ok (.invokevirtual 82, 3) := by decide +kernel
theorem dX4_readGuest_49 : decode cX4_readGuest 49 = .ok (.ifCond .eq 21, 3) := by decide +kernel
theorem dX4_readGuest_52 : decode cX4_readGuest 52 = .ok (.aload_n 0, 1) := by decide +kernel
theorem dX4_readGuest_53 : decode cX4_readGuest 53 = .ok (.iconst 0, 1) := by decide +kernel
theorem dX4_readGuest_54 : decode cX4_readGuest 54 = .ok (.bipush 99, 2) := by decide +kernel
theorem dX4_readGuest_56 : decode cX4_readGuest 56 = .ok (.invokevirtual 82, 3) := by decide +kernel
theorem dX4_readGuest_59 : decode cX4_readGuest 59 = .ok (.ifCond .eq 11, 3) := by decide +kernel
theorem dX4_readGuest_62 : decode cX4_readGuest 62 = .ok (.aload_n 0, 1) := by decide +kernel
theorem dX4_readGuest_63 : decode cX4_readGuest 63 = .ok (.iconst 4, 1) := by decide +kernel
theorem dX4_readGuest_64 : decode cX4_readGuest 64 = .ok (.invokevirtual 78, 3) := by decide +kernel
theorem dX4_readGuest_67 : decode cX4_readGuest 67 = .ok (.ifCond .ne 5, 3) := by decide +kernel
theorem dX4_readGuest_70 : decode cX4_readGuest 70 = .ok (.iconst 0, 1) := by decide +kernel
theorem dX4_readGuest_71 : decode cX4_readGuest 71 = .ok (.ireturn, 1) := by decide +kernel
theorem dX4_readGuest_72 : decode cX4_readGuest 72 = .ok (.aload_n 1, 1) := by decide +kernel
theorem dX4_readGuest_73 : decode cX4_readGuest 73 = .ok (.aload_n 0, 1) := by decide +kernel
theorem dX4_readGuest_74 : decode cX4_readGuest 74 = .ok (.getfield 21, 3) := by decide +kernel
theorem dX4_readGuest_77 : decode cX4_readGuest 77 = .ok (.getfield 105, 3) := by decide +kernel
theorem dX4_readGuest_80 : decode cX4_readGuest 80 = .ok (.aload_n 0, 1) := by decide +kernel
theorem dX4_readGuest_81 : decode cX4_readGuest 81 = .ok (.getfield 25, 3) := by decide +kernel
theorem dX4_readGuest_84 : decode cX4_readGuest 84 = .ok (.iconst 5, 1) := by decide +kernel
theorem dX4_readGuest_85 : decode cX4_readGuest 85 = .ok (.isub, 1) := by decide +kernel
theorem dX4_readGuest_86 : decode cX4_readGuest 86 = .ok (.laload, 1) := by decide +kernel
theorem dX4_readGuest_87 : decode cX4_readGuest 87 = .ok (.aload_n 0, 1) := by decide +kernel
theorem dX4_readGuest_88 : decode cX4_readGuest 88 = .ok (.iconst 4, 1) := by decide +kernel
theorem dX4_readGuest_89 : decode cX4_readGuest 89 = .ok (.invokevirtual 86, 3) := by decide +kernel
theorem dX4_readGuest_92 : decode cX4_readGuest 92 = .ok (.aload_n 0, 1) := by decide +kernel
theorem dX4_readGuest_93 : decode cX4_readGuest 93 = .ok (.iconst 3, 1) := by decide +kernel
theorem dX4_readGuest_94 : decode cX4_readGuest 94 = .ok (.invokevirtual 86, 3) := by decide +kernel
theorem dX4_readGuest_97 : decode cX4_readGuest 97 = .ok (.aload_n 0, 1) := by decide +kernel
theorem dX4_readGuest_98 : decode cX4_readGuest 98 = .ok (.iconst 2, 1) := by decide +kernel
theorem dX4_readGuest_99 : decode cX4_readGuest 99 = .ok (.invokevirtual 86, 3) := by decide +kernel
theorem dX4_readGuest_102 : decode cX4_readGuest 102 = .ok (.invokevirtual 116, 3) := by decide +kernel
theorem dX4_readGuest_105 : decode cX4_readGuest 105 = .ok (.iconst 1, 1) := by decide +kernel
theorem dX4_readGuest_106 : decode cX4_readGuest 106 = .ok (.ireturn, 1) := by decide +kernel
theorem dX4_readFoes_0 : decode cX4_readFoes 0 = .ok (.aload_n 1, 1) := by decide +kernel
theorem dX4_readFoes_1 : decode cX4_readFoes 1 = .ok (.getfield 120, 3) := by decide +kernel
theorem dX4_readFoes_4 : decode cX4_readFoes 4 = .ok (.bipush 8, 2) := by decide +kernel
theorem dX4_readFoes_6 : decode cX4_readFoes 6 = .ok (.if_icmp .lt 9, 3) := by decide +kernel
theorem dX4_readFoes_9 : decode cX4_readFoes 9 = .ok (.aload_n 0, 1) := by decide +kernel
theorem dX4_readFoes_10 : decode cX4_readFoes 10 = .ok (.iconst 2, 1) := by decide +kernel
theorem dX4_readFoes_11 : decode cX4_readFoes 11 = .ok (.invokevirtual 96, 3) := by decide +kernel
theorem dX4_readFoes_14 : decode cX4_readFoes 14 = .ok (.ireturn, 1) := by decide +kernel
theorem dX4_readFoes_15 : decode cX4_readFoes 15 = .ok (.aload_n 0, 1) := by decide +kernel
theorem dX4_readFoes_16 : decode cX4_readFoes 16 = .ok (.bipush 15, 2) := by decide +kernel
theorem dX4_readFoes_18 : decode cX4_readFoes 18 = .ok (.invokevirtual 78, 3) := by decide +kernel
theorem dX4_readFoes_21 : decode cX4_readFoes 21 = .ok (.ifCond .eq 27, 3) := by decide +kernel
theorem dX4_readFoes_24 : decode cX4_readFoes 24 = .ok (.aload_n 0, 1) := by decide +kernel
theorem dX4_readFoes_25 : decode cX4_readFoes 25 = .ok (.iconst 2, 1) := by decide +kernel
theorem dX4_readFoes_26 : decode cX4_readFoes 26 = .ok (.invokevirtual 78, 3) := by decide +kernel
theorem dX4_readFoes_29 : decode cX4_readFoes 29 = .ok (.ifCond .eq 19, 3) := by decide +kernel
theorem dX4_readFoes_32 : decode cX4_readFoes 32 = .ok (.aload_n 0, 1) := by decide +kernel
theorem dX4_readFoes_33 : decode cX4_readFoes 33 = .ok (.iconst 2, 1) := by decide +kernel
theorem dX4_readFoes_34 : decode cX4_readFoes 34 = .ok (.invokevirtual 78, 3) := by decide +kernel
theorem dX4_readFoes_37 : decode cX4_readFoes 37 = .ok (.ifCond .eq 11, 3) := by decide +kernel
theorem dX4_readFoes_40 : decode cX4_readFoes 40 = .ok (.aload_n 0, 1) := by decide +kernel
theorem dX4_readFoes_41 : decode cX4_readFoes 41 = .ok (.iconst 4, 1) := by decide +kernel
theorem dX4_readFoes_42 : decode cX4_readFoes 42 = .ok (.invokevirtual 78, 3) := by decide +kernel
theorem dX4_readFoes_45 : decode cX4_readFoes 45 = .ok (.ifCond .ne 5, 3) := by decide +kernel
theorem dX4_readFoes_48 : decode cX4_readFoes 48 = .ok (.iconst 0, 1) := by decide +kernel
theorem dX4_readFoes_49 : decode cX4_readFoes 49 = .ok (.ireturn, 1) := by decide +kernel
theorem dX4_readFoes_50 : decode cX4_readFoes 50 = .ok (.aload_n 1, 1) := by decide +kernel
theorem dX4_readFoes_51 : decode cX4_readFoes 51 = .ok (.aload_n 0, 1) := by decide +kernel
theorem dX4_readFoes_52 : decode cX4_readFoes 52 = .ok (.getfield 21, 3) := by decide +kernel
theorem dX4_readFoes_55 : decode cX4_readFoes 55 = .ok (.getfield 105, 3) := by decide +kernel
theorem dX4_readFoes_58 : decode cX4_readFoes 58 = .ok (.aload_n 0, 1) := by decide +kernel
theorem dX4_readFoes_59 : decode cX4_readFoes 59 = .ok (.getfield 25, 3) := by decide +kernel
theorem dX4_readFoes_62 : decode cX4_readFoes 62 = .ok (.iconst 3, 1) := by decide +kernel
theorem dX4_readFoes_63 : decode cX4_readFoes 63 = .ok (.isub, 1) := by decide +kernel
theorem dX4_readFoes_64 : decode cX4_readFoes 64 = .ok (.laload, 1) := by decide +kernel
theorem dX4_readFoes_65 : decode cX4_readFoes 65 = .ok (.invokevirtual 123, 3) := by decide +kernel
theorem dX4_readFoes_68 : decode cX4_readFoes 68 = .ok (.istore_n 2, 1) := by decide +kernel
theorem dX4_readFoes_69 : decode cX4_readFoes 69 = .ok (.aload_n 1, 1) := by decide +kernel
theorem dX4_readFoes_70 : decode cX4_readFoes 70 = .ok (.aload_n 0, 1) := by decide +kernel
theorem dX4_readFoes_71 : decode cX4_readFoes 71 = .ok (.getfield 21, 3) := by decide +kernel
theorem dX4_readFoes_74 : decode cX4_readFoes 74 = .ok (.getfield 105, 3) := by decide +kernel
theorem dX4_readFoes_77 : decode cX4_readFoes 77 = .ok (.aload_n 0, 1) := by decide +kernel
theorem dX4_readFoes_78 : decode cX4_readFoes 78 = .ok (.getfield 25, 3) := by decide +kernel
theorem dX4_readFoes_81 : decode cX4_readFoes 81 = .ok (.iconst 2, 1) := by decide +kernel
theorem dX4_readFoes_82 : decode cX4_readFoes 82 = .ok (.isub, 1) := by decide +kernel
theorem dX4_readFoes_83 : decode cX4_readFoes 83 = .ok (.laload, 1) := by decide +kernel
theorem dX4_readFoes_84 : decode cX4_readFoes 84 = .ok (.invokevirtual 123, 3) := by decide +kernel
theorem dX4_readFoes_87 : decode cX4_readFoes 87 = .ok (.istore_n 3, 1) := by decide +kernel
theorem dX4_readFoes_88 : decode cX4_readFoes 88 = .ok (.iload_n 2, 1) := by decide +kernel
theorem dX4_readFoes_89 : decode cX4_readFoes 89 = .ok (.ifCond .ge 17, 3) := by decide +kernel
theorem dX4_readFoes_92 : decode cX4_readFoes 92 = .ok (.aload_n 0, 1) := by decide +kernel
theorem dX4_readFoes_93 : decode cX4_readFoes 93 = .ok (.iconst 4, 1) := by decide +kernel
theorem dX4_readFoes_94 : decode cX4_readFoes 94 = .ok (.aload_n 0, 1) := by decide +kernel
theorem dX4_readFoes_95 : decode cX4_readFoes 95 = .ok (.getfield 25, 3) := by decide +kernel
theorem dX4_readFoes_98 : decode cX4_readFoes 98 = .ok (.iconst 3, 1) := by decide +kernel
theorem dX4_readFoes_99 : decode cX4_readFoes 99 = .ok (.isub, 1) := by decide +kernel
theorem dX4_readFoes_100 : decode cX4_readFoes 100 = .ok (.invokevirtual 127, 3) := by decide +kernel
theorem dX4_readFoes_103 : decode cX4_readFoes 103 = .ok (.goto 46, 3) := by decide +kernel
theorem dX4_readFoes_106 : decode cX4_readFoes 106 = .ok (.iload_n 3, 1) := by decide +kernel
theorem dX4_readFoes_107 : decode cX4_readFoes 107 = .ok (.ifCond .ge 17, 3) := by decide +kernel
theorem dX4_readFoes_110 : decode cX4_readFoes 110 = .ok (.aload_n 0, 1) := by decide +kernel
theorem dX4_readFoes_111 : decode cX4_readFoes 111 = .ok (.iconst 4, 1) := by decide +kernel
theorem dX4_readFoes_112 : decode cX4_readFoes 112 = .ok (.aload_n 0, 1) := by decide +kernel
theorem dX4_readFoes_113 : decode cX4_readFoes 113 = .ok (.getfield 25, 3) := by decide +kernel
theorem dX4_readFoes_116 : decode cX4_readFoes 116 = .ok (.iconst 2, 1) := by decide +kernel
theorem dX4_readFoes_117 : decode cX4_readFoes 117 = .ok (.isub, 1) := by decide +kernel
theorem dX4_readFoes_118 : decode cX4_readFoes 118 = .ok (.invokevirtual 127, 3) := by decide +kernel
theorem dX4_readFoes_121 : decode cX4_readFoes 121 = .ok (.goto 28, 3) := by decide +kernel
theorem dX4_readFoes_124 : decode cX4_readFoes 124 = .ok (.iload_n 2, 1) := by decide +kernel
theorem dX4_readFoes_125 : decode cX4_readFoes 125 = .ok (.iload_n 3, 1) := by decide +kernel
theorem dX4_readFoes_126 : decode cX4_readFoes 126 = .ok (.if_icmp .eq 12, 3) := by decide +kernel
theorem dX4_readFoes_129 : decode cX4_readFoes 129 = .ok (.aload_n 1, 1) := by decide +kernel
theorem dX4_readFoes_130 : decode cX4_readFoes 130 = .ok (.iload_n 2, 1) := by decide +kernel
theorem dX4_readFoes_131 : decode cX4_readFoes 131 = .ok (.iload_n 3, 1) := by decide +kernel
theorem dX4_readFoes_132 : decode cX4_readFoes 132 = .ok (.invokevirtual 131, 3) := by decide +kernel
theorem dX4_readFoes_135 : decode cX4_readFoes 135 = .ok (.ifCond .eq 14, 3) := by decide +kernel
theorem dX4_readFoes_138 : decode cX4_readFoes 138 = .ok (.aload_n 0, 1) := by decide +kernel
theorem dX4_readFoes_139 : decode cX4_readFoes 139 = .ok (.iconst 3, 1) := by decide +kernel
theorem dX4_readFoes_140 : decode cX4_readFoes 140 = .ok (.aload_n 0, 1) := by decide +kernel
theorem dX4_readFoes_141 : decode cX4_readFoes 141 = .ok (.getfield 25, 3) := by decide +kernel
theorem dX4_readFoes_144 : decode cX4_readFoes 144 = .ok (.iconst 2, 1) := by decide +kernel
theorem dX4_readFoes_145 : decode cX4_readFoes 145 = .ok (.isub, 1) := by decide +kernel
theorem dX4_readFoes_146 : decode cX4_readFoes 146 = .ok (.invokevirtual 127, 3) := by decide +kernel
theorem dX4_readFoes_149 : decode cX4_readFoes 149 = .ok (.aload_n 1, 1) := by decide +kernel
theorem dX4_readFoes_150 : decode cX4_readFoes 150 = .ok (.iload_n 2, 1) := by decide +kernel
theorem dX4_readFoes_151 : decode cX4_readFoes 151 = .ok (.iload_n 3, 1) := by decide +kernel
theorem dX4_readFoes_152 : decode cX4_readFoes 152 = .ok (.invokevirtual 134, 3) := by decide +kernel
theorem dX4_readFoes_155 : decode cX4_readFoes 155 = .ok (.iconst 1, 1) := by decide +kernel
theorem dX4_readFoes_156 : decode cX4_readFoes 156 = .ok (.ireturn, 1) := by decide +kernel
theorem dX4_readLaw_0 : decode cX4_readLaw 0 = .ok (.aload_n 0, 1) := by decide +kernel
theorem dX4_readLaw_1 : decode cX4_readLaw 1 = .ok (.bipush 16, 2) := by decide +kernel
theorem dX4_readLaw_3 : decode cX4_readLaw 3 = .ok (.iload_n 2, 1) := by decide +kernel
theorem dX4_readLaw_4 : decode cX4_readLaw 4 = .ok (.iadd, 1) := by decide +kernel
theorem dX4_readLaw_5 : decode cX4_readLaw 5 = .ok (.invokevirtual 78, 3) := by decide +kernel
theorem dX4_readLaw_8 : decode cX4_readLaw 8 = .ok (.ifCond .eq 11, 3) := by decide +kernel
theorem dX4_readLaw_11 : decode cX4_readLaw 11 = .ok (.aload_n 0, 1) := by decide +kernel
theorem dX4_readLaw_12 : decode cX4_readLaw 12 = .ok (.iconst 5, 1) := by decide +kernel
theorem dX4_readLaw_13 : decode cX4_readLaw 13 = .ok (.invokevirtual 78, 3) := by decide +kernel
theorem dX4_readLaw_16 : decode cX4_readLaw 16 = .ok (.ifCond .ne 5, 3) := by decide +kernel
theorem dX4_readLaw_19 : decode cX4_readLaw 19 = .ok (.iconst 0, 1) := by decide +kernel
theorem dX4_readLaw_20 : decode cX4_readLaw 20 = .ok (.ireturn, 1) := by decide +kernel
theorem dX4_readLaw_21 : decode cX4_readLaw 21 = .ok (.aload_n 1, 1) := by decide +kernel
theorem dX4_readLaw_22 : decode cX4_readLaw 22 = .ok (.iload_n 2, 1) := by decide +kernel
theorem dX4_readLaw_23 : decode cX4_readLaw 23 = .ok (.invokevirtual 137, 3) := by decide +kernel
theorem dX4_readLaw_26 : decode cX4_readLaw 26 = .ok (.iconst 0, 1) := by decide +kernel
theorem dX4_readLaw_27 : decode cX4_readLaw 27 = .ok (.istore_n 3, 1) := by decide +kernel
theorem dX4_readLaw_28 : decode cX4_readLaw 28 = .ok (.iload_n 3, 1) := by decide +kernel
theorem dX4_readLaw_29 : decode cX4_readLaw 29 = .ok (.iconst 4, 1) := by decide +kernel
theorem dX4_readLaw_30 : decode cX4_readLaw 30 = .ok (.if_icmp .gt 118, 3) := by decide +kernel
theorem dX4_readLaw_33 : decode cX4_readLaw 33 = .ok (.aload_n 0, 1) := by decide +kernel
theorem dX4_readLaw_34 : decode cX4_readLaw 34 = .ok (.invokevirtual 43, 3) := by decide +kernel
theorem dX4_readLaw_37 : decode cX4_readLaw 37 = .ok (.bipush 22, 2) := by decide +kernel
theorem dX4_readLaw_39 : decode cX4_readLaw 39 = .ok (.if_icmp .ne 109, 3) := by decide +kernel
theorem dX4_readLaw_42 : decode cX4_readLaw 42 = .ok (.iload_n 3, 1) := by decide +kernel
theorem dX4_readLaw_43 : decode cX4_readLaw 43 = .ok (.iconst 4, 1) := by decide +kernel
theorem dX4_readLaw_44 : decode cX4_readLaw 44 = .ok (.if_icmp .ne 9, 3) := by decide +kernel
theorem dX4_readLaw_47 : decode cX4_readLaw 47 = .ok (.aload_n 0, 1) := by decide +kernel
theorem dX4_readLaw_48 : decode cX4_readLaw 48 = .ok (.iconst 2, 1) := by decide +kernel
theorem dX4_readLaw_49 : decode cX4_readLaw 49 = .ok (.invokevirtual 96, 3) := by decide +kernel
theorem dX4_readLaw_52 : decode cX4_readLaw 52 = .ok (.ireturn, 1) := by decide +kernel
theorem dX4_readLaw_53 : decode cX4_readLaw 53 = .ok (.aload_n 0, 1) := by decide +kernel
theorem dX4_readLaw_54 : decode cX4_readLaw 54 = .ok (.bipush 22, 2) := by decide +kernel
theorem dX4_readLaw_56 : decode cX4_readLaw 56 = .ok (.invokevirtual 78, 3) := by decide +kernel
theorem dX4_readLaw_59 : decode cX4_readLaw 59 = .ok (.ifCond .eq 39, 3) := by decide +kernel
theorem dX4_readLaw_62 : decode cX4_readLaw 62 = .ok (.aload_n 0, 1) := by decide +kernel
theorem dX4_readLaw_63 : decode cX4_readLaw 63 = .ok (.aload_n 1, 1) := by decide +kernel
theorem dX4_readLaw_64 : decode cX4_readLaw 64 = .ok (.iconst 0, 1) := by decide +kernel
theorem dX4_readLaw_65 : decode cX4_readLaw 65 = .ok (.invokevirtual 143, 3) := by decide +kernel
theorem dX4_readLaw_68 : decode cX4_readLaw 68 = .ok (.ifCond .eq 30, 3) := by decide +kernel
theorem dX4_readLaw_71 : decode cX4_readLaw 71 = .ok (.aload_n 0, 1) := by decide +kernel
theorem dX4_readLaw_72 : decode cX4_readLaw 72 = .ok (.bipush 10, 2) := by decide +kernel
theorem dX4_readLaw_74 : decode cX4_readLaw 74 = .ok (.invokevirtual 78, 3) := by decide +kernel
theorem dX4_readLaw_77 : decode cX4_readLaw 77 = .ok (.ifCond .eq 21, 3) := by decide +kernel
theorem dX4_readLaw_80 : decode cX4_readLaw 80 = .ok (.aload_n 0, 1) := by decide +kernel
theorem dX4_readLaw_81 : decode cX4_readLaw 81 = .ok (.aload_n 1, 1) := by decide +kernel
theorem dX4_readLaw_82 : decode cX4_readLaw 82 = .ok (.iconst 0, 1) := by decide +kernel
theorem dX4_readLaw_83 : decode cX4_readLaw 83 = .ok (.invokevirtual 143, 3) := by decide +kernel
theorem dX4_readLaw_86 : decode cX4_readLaw 86 = .ok (.ifCond .eq 12, 3) := by decide +kernel
theorem dX4_readLaw_89 : decode cX4_readLaw 89 = .ok (.aload_n 0, 1) := by decide +kernel
theorem dX4_readLaw_90 : decode cX4_readLaw 90 = .ok (.bipush 23, 2) := by decide +kernel
theorem dX4_readLaw_92 : decode cX4_readLaw 92 = .ok (.invokevirtual 78, 3) := by decide +kernel
theorem dX4_readLaw_95 : decode cX4_readLaw 95 = .ok (.ifCond .ne 5, 3) := by decide +kernel
theorem dX4_readLaw_98 : decode cX4_readLaw 98 = .ok (.iconst 0, 1) := by decide +kernel
theorem dX4_readLaw_99 : decode cX4_readLaw 99 = .ok (.ireturn, 1) := by decide +kernel
theorem dX4_readLaw_100 : decode cX4_readLaw 100 = .ok (.aload_n 1, 1) := by decide +kernel
theorem dX4_readLaw_101 : decode cX4_readLaw 101 = .ok (.bipush 10, 2) := by decide +kernel
theorem dX4_readLaw_103 : decode cX4_readLaw 103 = .ok (.iconst 0, 1) := by decide +kernel
theorem dX4_readLaw_104 : decode cX4_readLaw 104 = .ok (.invokevirtual 146, 3) := by decide +kernel
theorem dX4_readLaw_107 : decode cX4_readLaw 107 = .ok (.istore 4, 2) := by decide +kernel
theorem dX4_readLaw_109 : decode cX4_readLaw 109 = .ok (.aload_n 0, 1) := by decide +kernel
theorem dX4_readLaw_110 : decode cX4_readLaw 110 = .ok (.aload_n 1, 1) := by decide +kernel
theorem dX4_readLaw_111 : decode cX4_readLaw 111 = .ok (.iconst 0, 1) := by decide +kernel
theorem dX4_readLaw_112 : decode cX4_readLaw 112 = .ok (.invokevirtual 143, 3) := by decide +kernel
theorem dX4_readLaw_115 : decode cX4_readLaw 115 = .ok (.ifCond .eq 12, 3) := by decide +kernel
theorem dX4_readLaw_118 : decode cX4_readLaw 118 = .ok (.aload_n 0, 1) := by decide +kernel
theorem dX4_readLaw_119 : decode cX4_readLaw 119 = .ok (.bipush 24, 2) := by decide +kernel
theorem dX4_readLaw_121 : decode cX4_readLaw 121 = .ok (.invokevirtual 78, 3) := by decide +kernel
theorem dX4_readLaw_124 : decode cX4_readLaw 124 = .ok (.ifCond .ne 5, 3) := by decide +kernel
theorem dX4_readLaw_127 : decode cX4_readLaw 127 = .ok (.iconst 0, 1) := by decide +kernel
theorem dX4_readLaw_128 : decode cX4_readLaw 128 = .ok (.ireturn, 1) := by decide +kernel
theorem dX4_readLaw_129 : decode cX4_readLaw 129 = .ok (.aload_n 1, 1) := by decide +kernel
theorem dX4_readLaw_130 : decode cX4_readLaw 130 = .ok (.iconst 0, 1) := by decide +kernel
theorem dX4_readLaw_131 : decode cX4_readLaw 131 = .ok (.iconst 0, 1) := by decide +kernel
theorem dX4_readLaw_132 : decode cX4_readLaw 132 = .ok (.invokevirtual 146, 3) := by decide +kernel
theorem dX4_readLaw_135 : decode cX4_readLaw 135 = .ok (.pop, 1) := by decide +kernel
theorem dX4_readLaw_136 : decode cX4_readLaw 136 = .ok (.aload_n 1, 1) := by decide +kernel
theorem dX4_readLaw_137 : decode cX4_readLaw 137 = .ok (.iload 4, 2) := by decide +kernel
theorem dX4_readLaw_139 : decode cX4_readLaw 139 = .ok (.invokevirtual 150, 3) := by decide +kernel
theorem dX4_readLaw_142 : decode cX4_readLaw 142 = .ok (.iinc 3 1, 3) := by decide +kernel
theorem dX4_readLaw_145 : decode cX4_readLaw 145 = .ok (.goto (-117), 3) := by decide +kernel
theorem dX4_readLaw_148 : decode cX4_readLaw 148 = .ok (.aload_n 0, 1) := by decide +kernel
theorem dX4_readLaw_149 : decode cX4_readLaw 149 = .ok (.aload_n 1, 1) := by decide +kernel
theorem dX4_readLaw_150 : decode cX4_readLaw 150 = .ok (.iconst 0, 1) := by decide +kernel
theorem dX4_readLaw_151 : decode cX4_readLaw 151 = .ok (.invokevirtual 143, 3) := by decide +kernel
theorem dX4_readLaw_154 : decode cX4_readLaw 154 = .ok (.ifCond .eq 11, 3) := by decide +kernel
theorem dX4_readLaw_157 : decode cX4_readLaw 157 = .ok (.aload_n 0, 1) := by decide +kernel
theorem dX4_readLaw_158 : decode cX4_readLaw 158 = .ok (.iconst 4, 1) := by decide +kernel
theorem dX4_readLaw_159 : decode cX4_readLaw 159 = .ok (.invokevirtual 78, 3) := by decide +kernel
theorem dX4_readLaw_162 : decode cX4_readLaw 162 = .ok (.ifCond .ne 5, 3) := by decide +kernel
theorem dX4_readLaw_165 : decode cX4_readLaw 165 = .ok (.iconst 0, 1) := by decide +kernel
theorem dX4_readLaw_166 : decode cX4_readLaw 166 = .ok (.ireturn, 1) := by decide +kernel
theorem dX4_readLaw_167 : decode cX4_readLaw 167 = .ok (.aload_n 1, 1) := by decide +kernel
theorem dX4_readLaw_168 : decode cX4_readLaw 168 = .ok (.iconst 0, 1) := by decide +kernel
theorem dX4_readLaw_169 : decode cX4_readLaw 169 = .ok (.iconst 0, 1) := by decide +kernel
theorem dX4_readLaw_170 : decode cX4_readLaw 170 = .ok (.invokevirtual 146, 3) := by decide +kernel
theorem dX4_readLaw_173 : decode cX4_readLaw 173 = .ok (.pop, 1) := by decide +kernel
theorem dX4_readLaw_174 : decode cX4_readLaw 174 = .ok (.iconst 1, 1) := by decide +kernel
theorem dX4_readLaw_175 : decode cX4_readLaw 175 = .ok (.ireturn, 1) := by decide +kernel
theorem dX4_readSum_0 : decode cX4_readSum 0 = .ok (.aload_n 0, 1) := by decide +kernel
theorem dX4_readSum_1 : decode cX4_readSum 1 = .ok (.aload_n 1, 1) := by decide +kernel
theorem dX4_readSum_2 : decode cX4_readSum 2 = .ok (.iload_n 2, 1) := by decide +kernel
theorem dX4_readSum_3 : decode cX4_readSum 3 = .ok (.invokevirtual 153, 3) := by decide +kernel
theorem dX4_readSum_6 : decode cX4_readSum 6 = .ok (.ifCond .ne 5, 3) := by decide +kernel
theorem dX4_readSum_9 : decode cX4_readSum 9 = .ok (.iconst 0, 1) := by decide +kernel
theorem dX4_readSum_10 : decode cX4_readSum 10 = .ok (.ireturn, 1) := by decide +kernel
theorem dX4_readSum_11 : decode cX4_readSum 11 = .ok (.iconst 0, 1) := by decide +kernel
theorem dX4_readSum_12 : decode cX4_readSum 12 = .ok (.istore_n 3, 1) := by decide +kernel
theorem dX4_readSum_13 : decode cX4_readSum 13 = .ok (.iload_n 3, 1) := by decide +kernel
theorem dX4_readSum_14 : decode cX4_readSum 14 = .ok (.sipush 400, 3) := by decide +kernel
theorem dX4_readSum_17 : decode cX4_readSum 17 = .ok (.if_icmp .ge 61, 3) := by decide +kernel
theorem dX4_readSum_20 : decode cX4_readSum 20 = .ok (.aload_n 0, 1) := by decide +kernel
theorem dX4_readSum_21 : decode cX4_readSum 21 = .ok (.invokevirtual 43, 3) := by decide +kernel
theorem dX4_readSum_24 : decode cX4_readSum 24 = .ok (.bipush 6, 2) := by decide +kernel
theorem dX4_readSum_26 : decode cX4_readSum 26 = .ok (.if_icmp .eq 12, 3) := by decide +kernel
theorem dX4_readSum_29 : decode cX4_readSum 29 = .ok (.aload_n 0, 1) := by decide +kernel
theorem dX4_readSum_30 : decode cX4_readSum 30 = .ok (.invokevirtual 43, 3) := by decide +kernel
theorem dX4_readSum_33 : decode cX4_readSum 33 = .ok (.bipush 7, 2) := by decide +kernel
theorem dX4_readSum_35 : decode cX4_readSum 35 = .ok (.if_icmp .ne 43, 3) := by decide +kernel
theorem dX4_readSum_38 : decode cX4_readSum 38 = .ok (.aload_n 0, 1) := by decide +kernel
theorem dX4_readSum_39 : decode cX4_readSum 39 = .ok (.invokevirtual 43, 3) := by decide +kernel
theorem dX4_readSum_42 : decode cX4_readSum 42 = .ok (.istore 4, 2) := by decide +kernel
theorem dX4_readSum_44 : decode cX4_readSum 44 = .ok (.aload_n 0, 1) := by decide +kernel
theorem dX4_readSum_45 : decode cX4_readSum 45 = .ok (.iload 4, 2) := by decide +kernel
theorem dX4_readSum_47 : decode cX4_readSum 47 = .ok (.invokevirtual 78, 3) := by decide +kernel
theorem dX4_readSum_50 : decode cX4_readSum 50 = .ok (.ifCond .eq 12, 3) := by decide +kernel
theorem dX4_readSum_53 : decode cX4_readSum 53 = .ok (.aload_n 0, 1) := by decide +kernel
theorem dX4_readSum_54 : decode cX4_readSum 54 = .ok (.aload_n 1, 1) := by decide +kernel
theorem dX4_readSum_55 : decode cX4_readSum 55 = .ok (.iload_n 2, 1) := by decide +kernel
theorem dX4_readSum_56 : decode cX4_readSum 56 = .ok (.invokevirtual 153, 3) := by decide +kernel
theorem dX4_readSum_59 : decode cX4_readSum 59 = .ok (.ifCond .ne 5, 3) := by decide +kernel
theorem dX4_readSum_62 : decode cX4_readSum 62 = .ok (.iconst 0, 1) := by decide +kernel
theorem dX4_readSum_63 : decode cX4_readSum 63 = .ok (.ireturn, 1) := by decide +kernel
theorem dX4_readSum_64 : decode cX4_readSum 64 = .ok (.aload_n 1, 1) := by decide +kernel
theorem dX4_readSum_65 : decode cX4_readSum 65 = .ok (.iload 4, 2) := by decide +kernel
theorem dX4_readSum_67 : decode cX4_readSum 67 = .ok (.iconst 0, 1) := by decide +kernel
theorem dX4_readSum_68 : decode cX4_readSum 68 = .ok (.invokevirtual 146, 3) := by decide +kernel
theorem dX4_readSum_71 : decode cX4_readSum 71 = .ok (.pop, 1) := by decide +kernel
theorem dX4_readSum_72 : decode cX4_readSum 72 = .ok (.iinc 3 1, 3) := by decide +kernel
theorem dX4_readSum_75 : decode cX4_readSum 75 = .ok (.goto (-62), 3) := by decide +kernel
theorem dX4_readSum_78 : decode cX4_readSum 78 = .ok (.iconst 1, 1) := by decide +kernel
theorem dX4_readSum_79 : decode cX4_readSum 79 = .ok (.ireturn, 1) := by decide +kernel
theorem dX4_readProduct_0 : decode cX4_readProduct 0 = .ok (.aload_n 0, 1) := by decide +kernel
theorem dX4_readProduct_1 : decode cX4_readProduct 1 = .ok (.aload_n 1, 1) := by decide +kernel
theorem dX4_readProduct_2 : decode cX4_readProduct 2 = .ok (.iload_n 2, 1) := by decide +kernel
theorem dX4_readProduct_3 : decode cX4_readProduct 3 = .ok (.invokevirtual 156, 3) := by decide +kernel
theorem dX4_readProduct_6 : decode cX4_readProduct 6 = .ok (.ifCond .ne 5, 3) := by decide +kernel
theorem dX4_readProduct_9 : decode cX4_readProduct 9 = .ok (.iconst 0, 1) := by decide +kernel
theorem dX4_readProduct_10 : decode cX4_readProduct 10 = .ok (.ireturn, 1) := by decide +kernel
theorem dX4_readProduct_11 : decode cX4_readProduct 11 = .ok (.iconst 0, 1) := by decide +kernel
theorem dX4_readProduct_12 : decode cX4_readProduct 12 = .ok (.istore_n 3, 1) := by decide +kernel
theorem dX4_readProduct_13 : decode cX4_readProduct 13 = .ok (.iload_n 3, 1) := by decide +kernel
theorem dX4_readProduct_14 : decode cX4_readProduct 14 = .ok (.sipush 400, 3) := by decide +kernel
theorem dX4_readProduct_17 : decode cX4_readProduct 17 = .ok (.if_icmp .ge 61, 3) := by decide +kernel
theorem dX4_readProduct_20 : decode cX4_readProduct 20 = .ok (.aload_n 0, 1) := by decide +kernel
theorem dX4_readProduct_21 : decode cX4_readProduct 21 = .ok (.invokevirtual 43, 3) := by decide +kernel
theorem dX4_readProduct_24 : decode cX4_readProduct 24 = .ok (.bipush 8, 2) := by decide +kernel
theorem dX4_readProduct_26 : decode cX4_readProduct 26 = .ok (.if_icmp .eq 12, 3) := by decide +kernel
theorem dX4_readProduct_29 : decode cX4_readProduct 29 = .ok (.aload_n 0, 1) := by decide +kernel
theorem dX4_readProduct_30 : decode cX4_readProduct 30 = .ok (.invokevirtual 43, 3) := by decide +kernel
theorem dX4_readProduct_33 : decode cX4_readProduct 33 = .ok (.bipush 9, 2) := by decide +kernel
theorem dX4_readProduct_35 : decode cX4_readProduct 35 = .ok (.if_icmp .ne 43, 3) := by decide +kernel
theorem dX4_readProduct_38 : decode cX4_readProduct 38 = .ok (.aload_n 0, 1) := by decide +kernel
theorem dX4_readProduct_39 : decode cX4_readProduct 39 = .ok (.invokevirtual 43, 3) := by decide +kernel
theorem dX4_readProduct_42 : decode cX4_readProduct 42 = .ok (.istore 4, 2) := by decide +kernel
theorem dX4_readProduct_44 : decode cX4_readProduct 44 = .ok (.aload_n 0, 1) := by decide +kernel
theorem dX4_readProduct_45 : decode cX4_readProduct 45 = .ok (.iload 4, 2) := by decide +kernel
theorem dX4_readProduct_47 : decode cX4_readProduct 47 = .ok (.invokevirtual 78, 3) := by decide +kernel
theorem dX4_readProduct_50 : decode cX4_readProduct 50 = .ok (.ifCond .eq 12, 3) := by decide +kernel
theorem dX4_readProduct_53 : decode cX4_readProduct 53 = .ok (.aload_n 0, 1) := by decide +kernel
theorem dX4_readProduct_54 : decode cX4_readProduct 54 = .ok (.aload_n 1, 1) := by decide +kernel
theorem dX4_readProduct_55 : decode cX4_readProduct 55 = .ok (.iload_n 2, 1) := by decide +kernel
theorem dX4_readProduct_56 : decode cX4_readProduct 56 = .ok (.invokevirtual 156, 3) := by decide +kernel
theorem dX4_readProduct_59 : decode cX4_readProduct 59 = .ok (.ifCond .ne 5, 3) := by decide +kernel
theorem dX4_readProduct_62 : decode cX4_readProduct 62 = .ok (.iconst 0, 1) := by decide +kernel
theorem dX4_readProduct_63 : decode cX4_readProduct 63 = .ok (.ireturn, 1) := by decide +kernel
theorem dX4_readProduct_64 : decode cX4_readProduct 64 = .ok (.aload_n 1, 1) := by decide +kernel
theorem dX4_readProduct_65 : decode cX4_readProduct 65 = .ok (.iload 4, 2) := by decide +kernel
theorem dX4_readProduct_67 : decode cX4_readProduct 67 = .ok (.iconst 0, 1) := by decide +kernel
theorem dX4_readProduct_68 : decode cX4_readProduct 68 = .ok (.invokevirtual 146, 3) := by decide +kernel
theorem dX4_readProduct_71 : decode cX4_readProduct 71 = .ok (.pop, 1) := by decide +kernel
theorem dX4_readProduct_72 : decode cX4_readProduct 72 = .ok (.iinc 3 1, 3) := by decide +kernel
theorem dX4_readProduct_75 : decode cX4_readProduct 75 = .ok (.goto (-62), 3) := by decide +kernel
theorem dX4_readProduct_78 : decode cX4_readProduct 78 = .ok (.iconst 1, 1) := by decide +kernel
theorem dX4_readProduct_79 : decode cX4_readProduct 79 = .ok (.ireturn, 1) := by decide +kernel
theorem dX4_readUnit_0 : decode cX4_readUnit 0 = .ok (.aload_n 0, 1) := by decide +kernel
theorem dX4_readUnit_1 : decode cX4_readUnit 1 = .ok (.invokevirtual 43, 3) := by decide +kernel
theorem dX4_readUnit_4 : decode cX4_readUnit 4 = .ok (.istore_n 3, 1) := by decide +kernel
theorem dX4_readUnit_5 : decode cX4_readUnit 5 = .ok (.iload_n 3, 1) := by decide +kernel
theorem dX4_readUnit_6 : decode cX4_readUnit 6 = .ok (.bipush 11, 2) := by decide +kernel
theorem dX4_readUnit_8 : decode cX4_readUnit 8 = .ok (.if_icmp .ne 50, 3) := by decide +kernel
theorem dX4_readUnit_11 : decode cX4_readUnit 11 = .ok (.iload_n 2, 1) := by decide +kernel
theorem dX4_readUnit_12 : decode cX4_readUnit 12 = .ok (.bipush 6, 2) := by decide +kernel
theorem dX4_readUnit_14 : decode cX4_readUnit 14 = .ok (.if_icmp .lt 9, 3) := by decide +kernel
theorem dX4_readUnit_17 : decode cX4_readUnit 17 = .ok (.aload_n 0, 1) := by decide +kernel
theorem dX4_readUnit_18 : decode cX4_readUnit 18 = .ok (.iconst 2, 1) := by decide +kernel
theorem dX4_readUnit_19 : decode cX4_readUnit 19 = .ok (.invokevirtual 96, 3) := by decide +kernel
theorem dX4_readUnit_22 : decode cX4_readUnit 22 = .ok (.ireturn, 1) := by decide +kernel
theorem dX4_readUnit_23 : decode cX4_readUnit 23 = .ok (.aload_n 0, 1) := by decide +kernel
theorem dX4_readUnit_24 : decode cX4_readUnit 24 = .ok (.bipush 11, 2) := by decide +kernel
theorem dX4_readUnit_26 : decode cX4_readUnit 26 = .ok (.invokevirtual 78, 3) := by decide +kernel
theorem dX4_readUnit_29 : decode cX4_readUnit 29 = .ok (.ifCond .eq 27, 3) := by decide +kernel
theorem dX4_readUnit_32 : decode cX4_readUnit 32 = .ok (.aload_n 0, 1) := by decide +kernel
theorem dX4_readUnit_33 : decode cX4_readUnit 33 = .ok (.aload_n 1, 1) := by decide +kernel
theorem dX4_readUnit_34 : decode cX4_readUnit 34 = .ok (.iload_n 2, 1) := by decide +kernel
theorem dX4_readUnit_35 : decode cX4_readUnit 35 = .ok (.iconst 1, 1) := by decide +kernel
theorem dX4_readUnit_36 : decode cX4_readUnit 36 = .ok (.iadd, 1) := by decide +kernel
theorem dX4_readUnit_37 : decode cX4_readUnit 37 = .ok (.invokevirtual 143, 3) := by decide +kernel
theorem dX4_readUnit_40 : decode cX4_readUnit 40 = .ok (.ifCond .eq 16, 3) := by decide +kernel
theorem dX4_readUnit_43 : decode cX4_readUnit 43 = .ok (.aload_n 0, 1) := by decide +kernel
theorem dX4_readUnit_44 : decode cX4_readUnit 44 = .ok (.bipush 12, 2) := by decide +kernel
theorem dX4_readUnit_46 : decode cX4_readUnit 46 = .ok (.invokevirtual 78, 3) := by decide +kernel
theorem dX4_readUnit_49 : decode cX4_readUnit 49 = .ok (.ifCond .eq 7, 3) := by decide +kernel
theorem dX4_readUnit_52 : decode cX4_readUnit 52 = .ok (.iconst 1, 1) := by decide +kernel
theorem dX4_readUnit_53 : decode cX4_readUnit 53 = .ok (.goto 4, 3) := by decide +kernel
theorem dX4_readUnit_56 : decode cX4_readUnit 56 = .ok (.iconst 0, 1) := by decide +kernel
theorem dX4_readUnit_57 : decode cX4_readUnit 57 = .ok (.ireturn, 1) := by decide +kernel
theorem dX4_readUnit_58 : decode cX4_readUnit 58 = .ok (.iload_n 3, 1) := by decide +kernel
theorem dX4_readUnit_59 : decode cX4_readUnit 59 = .ok (.bipush 25, 2) := by decide +kernel
theorem dX4_readUnit_61 : decode cX4_readUnit 61 = .ok (.if_icmp .lt 26, 3) := by decide +kernel
theorem dX4_readUnit_64 : decode cX4_readUnit 64 = .ok (.iload_n 3, 1) := by decide +kernel
theorem dX4_readUnit_65 : decode cX4_readUnit 65 = .ok (.bipush 33, 2) := by decide +kernel
theorem dX4_readUnit_67 : decode cX4_readUnit 67 = .ok (.if_icmp .gt 20, 3) := by decide +kernel
theorem dX4_readUnit_70 : decode cX4_readUnit 70 = .ok (.aload_n 1, 1) := by decide +kernel
theorem dX4_readUnit_71 : decode cX4_readUnit 71 = .ok (.bipush 13, 2) := by decide +kernel
theorem dX4_readUnit_73 : decode cX4_readUnit 73 = .ok (.iload_n 3, 1) := by decide +kernel
theorem dX4_readUnit_74 : decode cX4_readUnit 74 = .ok (.bipush 25, 2) := by decide +kernel
theorem dX4_readUnit_76 : decode cX4_readUnit 76 = .ok (.isub, 1) := by decide +kernel
theorem dX4_readUnit_77 : decode cX4_readUnit 77 = .ok (.invokevirtual 146, 3) := by decide +kernel
theorem dX4_readUnit_80 : decode cX4_readUnit 80 = .ok (.pop, 1) := by decide +kernel
theorem dX4_readUnit_81 : decode cX4_readUnit 81 = .ok (.aload_n 0, 1) := by decide +kernel
theorem dX4_readUnit_82 : decode cX4_readUnit 82 = .ok (.iload_n 3, 1) := by decide +kernel
theorem dX4_readUnit_83 : decode cX4_readUnit 83 = .ok (.invokevirtual 78, 3) := by decide +kernel
theorem dX4_readUnit_86 : decode cX4_readUnit 86 = .ok (.ireturn, 1) := by decide +kernel
theorem dX4_readUnit_87 : decode cX4_readUnit 87 = .ok (.aload_n 0, 1) := by decide +kernel
theorem dX4_readUnit_88 : decode cX4_readUnit 88 = .ok (.iconst 3, 1) := by decide +kernel
theorem dX4_readUnit_89 : decode cX4_readUnit 89 = .ok (.invokevirtual 78, 3) := by decide +kernel
theorem dX4_readUnit_92 : decode cX4_readUnit 92 = .ok (.ifCond .ne 5, 3) := by decide +kernel
theorem dX4_readUnit_95 : decode cX4_readUnit 95 = .ok (.iconst 0, 1) := by decide +kernel
theorem dX4_readUnit_96 : decode cX4_readUnit 96 = .ok (.ireturn, 1) := by decide +kernel
theorem dX4_readUnit_97 : decode cX4_readUnit 97 = .ok (.aload_n 1, 1) := by decide +kernel
theorem dX4_readUnit_98 : decode cX4_readUnit 98 = .ok (.iconst 3, 1) := by decide +kernel
theorem dX4_readUnit_99 : decode cX4_readUnit 99 = .ok (.aload_n 0, 1) := by decide +kernel
theorem dX4_readUnit_100 : decode cX4_readUnit 100 = .ok (.iconst 1, 1) := by decide +kernel
theorem dX4_readUnit_101 : decode cX4_readUnit 101 = .ok (.invokevirtual 86, 3) := by decide +kernel
theorem dX4_readUnit_104 : decode cX4_readUnit 104 = .ok (.invokevirtual 146, 3) := by decide +kernel
theorem dX4_readUnit_107 : decode cX4_readUnit 107 = .ok (.pop, 1) := by decide +kernel
theorem dX4_readUnit_108 : decode cX4_readUnit 108 = .ok (.iconst 1, 1) := by decide +kernel
theorem dX4_readUnit_109 : decode cX4_readUnit 109 = .ok (.ireturn, 1) := by decide +kernel
theorem dX4_take_0 : decode cX4_take 0 = .ok (.aload_n 0, 1) := by decide +kernel
theorem dX4_take_1 : decode cX4_take 1 = .ok (.getfield 21, 3) := by decide +kernel
theorem dX4_take_4 : decode cX4_take 4 = .ok (.getfield 58, 3) := by decide +kernel
theorem dX4_take_7 : decode cX4_take 7 = .ok (.aload_n 0, 1) := by decide +kernel
theorem dX4_take_8 : decode cX4_take 8 = .ok (.getfield 25, 3) := by decide +kernel
theorem dX4_take_11 : decode cX4_take 11 = .ok (.iaload, 1) := by decide +kernel
theorem dX4_take_12 : decode cX4_take 12 = .ok (.iload_n 1, 1) := by decide +kernel
theorem dX4_take_13 : decode cX4_take 13 = .ok (.if_icmp .ne 7, 3) := by decide +kernel
theorem dX4_take_16 : decode cX4_take 16 = .ok (.iconst 1, 1) := by decide +kernel
theorem dX4_take_17 : decode cX4_take 17 = .ok (.goto 4, 3) := by decide +kernel
theorem dX4_take_20 : decode cX4_take 20 = .ok (.iconst 0, 1) := by decide +kernel
theorem dX4_take_21 : decode cX4_take 21 = .ok (.istore_n 2, 1) := by decide +kernel
theorem dX4_take_22 : decode cX4_take 22 = .ok (.iload_n 2, 1) := by decide +kernel
theorem dX4_take_23 : decode cX4_take 23 = .ok (.ifCond .eq 13, 3) := by decide +kernel
theorem dX4_take_26 : decode cX4_take 26 = .ok (.aload_n 0, 1) := by decide +kernel
theorem dX4_take_27 : decode cX4_take 27 = .ok (.getfield 25, 3) := by decide +kernel
theorem dX4_take_30 : decode cX4_take 30 = .ok (.sipush 400, 3) := by decide +kernel
theorem dX4_take_33 : decode cX4_take 33 = .ok (.if_icmp .lt 18, 3) := by decide +kernel
theorem dX4_take_36 : decode cX4_take 36 = .ok (.aload_n 0, 1) := by decide +kernel
theorem dX4_take_37 : decode cX4_take 37 = .ok (.iload_n 2, 1) := by decide +kernel
theorem dX4_take_38 : decode cX4_take 38 = .ok (.ifCond .eq 7, 3) := by decide +kernel
theorem dX4_take_41 : decode cX4_take 41 = .ok (.iconst 2, 1) := by decide +kernel
theorem dX4_take_42 : decode cX4_take 42 = .ok (.goto 4, 3) := by decide +kernel
theorem dX4_take_45 : decode cX4_take 45 = .ok (.iconst 1, 1) := by decide +kernel
theorem dX4_take_46 : decode cX4_take 46 = .ok (.putfield 9, 3) := by decide +kernel
theorem dX4_take_49 : decode cX4_take 49 = .ok (.iconst 0, 1) := by decide +kernel
theorem dX4_take_50 : decode cX4_take 50 = .ok (.ireturn, 1) := by decide +kernel
theorem dX4_take_51 : decode cX4_take 51 = .ok (.aload_n 0, 1) := by decide +kernel
theorem dX4_take_52 : decode cX4_take 52 = .ok (.dup, 1) := by decide +kernel
theorem dX4_take_53 : decode cX4_take 53 = .ok (.getfield 25, 3) := by decide +kernel
theorem dX4_take_56 : decode cX4_take 56 = .ok (.iconst 1, 1) := by decide +kernel
theorem dX4_take_57 : decode cX4_take 57 = .ok (.iadd, 1) := by decide +kernel
theorem dX4_take_58 : decode cX4_take 58 = .ok (.putfield 25, 3) := by decide +kernel
theorem dX4_take_61 : decode cX4_take 61 = .ok (.iconst 1, 1) := by decide +kernel
theorem dX4_take_62 : decode cX4_take 62 = .ok (.ireturn, 1) := by decide +kernel
theorem dX4_takeInt_0 : decode cX4_takeInt 0 = .ok (.aload_n 0, 1) := by decide +kernel
theorem dX4_takeInt_1 : decode cX4_takeInt 1 = .ok (.iconst 3, 1) := by decide +kernel
theorem dX4_takeInt_2 : decode cX4_takeInt 2 = .ok (.invokevirtual 78, 3) := by decide +kernel
theorem dX4_takeInt_5 : decode cX4_takeInt 5 = .ok (.ifCond .ne 5, 3) := by decide +kernel
theorem dX4_takeInt_8 : decode cX4_takeInt 8 = .ok (.iconst 0, 1) := by decide +kernel
theorem dX4_takeInt_9 : decode cX4_takeInt 9 = .ok (.ireturn, 1) := by decide +kernel
theorem dX4_takeInt_10 : decode cX4_takeInt 10 = .ok (.aload_n 0, 1) := by decide +kernel
theorem dX4_takeInt_11 : decode cX4_takeInt 11 = .ok (.iconst 1, 1) := by decide +kernel
theorem dX4_takeInt_12 : decode cX4_takeInt 12 = .ok (.invokevirtual 86, 3) := by decide +kernel
theorem dX4_takeInt_15 : decode cX4_takeInt 15 = .ok (.istore_n 3, 1) := by decide +kernel
theorem dX4_takeInt_16 : decode cX4_takeInt 16 = .ok (.iload_n 3, 1) := by decide +kernel
theorem dX4_takeInt_17 : decode cX4_takeInt 17 = .ok (.iload_n 1, 1) := by decide +kernel
theorem dX4_takeInt_18 : decode cX4_takeInt 18 = .ok (.if_icmp .lt 8, 3) := by decide +kernel
theorem dX4_takeInt_21 : decode cX4_takeInt 21 = .ok (.iload_n 3, 1) := by decide +kernel
theorem dX4_takeInt_22 : decode cX4_takeInt 22 = .ok (.iload_n 2, 1) := by decide +kernel
theorem dX4_takeInt_23 : decode cX4_takeInt 23 = .ok (.if_icmp .le 14, 3) := by decide +kernel
theorem dX4_takeInt_26 : decode cX4_takeInt 26 = .ok (.aload_n 0, 1) := by decide +kernel
theorem dX4_takeInt_27 : decode cX4_takeInt 27 = .ok (.iconst 5, 1) := by decide +kernel
theorem dX4_takeInt_28 : decode cX4_takeInt 28 = .ok (.aload_n 0, 1) := by decide +kernel
theorem dX4_takeInt_29 : decode cX4_takeInt 29 = .ok (.getfield 25, 3) := by decide +kernel
theorem dX4_takeInt_32 : decode cX4_takeInt 32 = .ok (.iconst 1, 1) := by decide +kernel
theorem dX4_takeInt_33 : decode cX4_takeInt 33 = .ok (.isub, 1) := by decide +kernel
theorem dX4_takeInt_34 : decode cX4_takeInt 34 = .ok (.invokevirtual 127, 3) := by decide +kernel
theorem dX4_takeInt_37 : decode cX4_takeInt 37 = .ok (.iconst 1, 1) := by decide +kernel
theorem dX4_takeInt_38 : decode cX4_takeInt 38 = .ok (.ireturn, 1) := by decide +kernel
theorem dX4_takeNewName_0 : decode cX4_takeNewName 0 = .ok (.aload_n 0, 1) := by decide +kernel
theorem dX4_takeNewName_1 : decode cX4_takeNewName 1 = .ok (.iconst 2, 1) := by decide +kernel
theorem dX4_takeNewName_2 : decode cX4_takeNewName 2 = .ok (.invokevirtual 78, 3) := by decide +kernel
theorem dX4_takeNewName_5 : decode cX4_takeNewName 5 = .ok (.ifCond .ne 5, 3) := by decide +kernel
theorem dX4_takeNewName_8 : decode cX4_takeNewName 8 = .ok (.iconst 0, 1) := by decide +kernel
theorem dX4_takeNewName_9 : decode cX4_takeNewName 9 = .ok (.ireturn, 1) := by decide +kernel
theorem dX4_takeNewName_10 : decode cX4_takeNewName 10 = .ok (.aload_n 1, 1) := by decide +kernel
theorem dX4_takeNewName_11 : decode cX4_takeNewName 11 = .ok (.aload_n 0, 1) := by decide +kernel
theorem dX4_takeNewName_12 : decode cX4_takeNewName 12 = .ok (.getfield 21, 3) := by decide +kernel
theorem dX4_takeNewName_15 : decode cX4_takeNewName 15 = .ok (.getfield 105, 3) := by decide +kernel
theorem dX4_takeNewName_18 : decode cX4_takeNewName 18 = .ok (.aload_n 0, 1) := by decide +kernel
theorem dX4_takeNewName_19 : decode cX4_takeNewName 19 = .ok (.getfield 25, 3) := by decide +kernel
theorem dX4_takeNewName_22 : decode cX4_takeNewName 22 = .ok (.iconst 1, 1) := by decide +kernel
theorem dX4_takeNewName_23 : decode cX4_takeNewName 23 = .ok (.isub, 1) := by decide +kernel
theorem dX4_takeNewName_24 : decode cX4_takeNewName 24 = .ok (.laload, 1) := by decide +kernel
theorem dX4_takeNewName_25 : decode cX4_takeNewName 25 = .ok (.invokevirtual 159, 3) := by decide +kernel
theorem dX4_takeNewName_28 : decode cX4_takeNewName 28 = .ok (.ifCond .eq 14, 3) := by decide +kernel
theorem dX4_takeNewName_31 : decode cX4_takeNewName 31 = .ok (.aload_n 0, 1) := by decide +kernel
theorem dX4_takeNewName_32 : decode cX4_takeNewName 32 = .ok (.iconst 3, 1) := by decide +kernel
theorem dX4_takeNewName_33 : decode cX4_takeNewName 33 = .ok (.aload_n 0, 1) := by decide +kernel
theorem dX4_takeNewName_34 : decode cX4_takeNewName 34 = .ok (.getfield 25, 3) := by decide +kernel
theorem dX4_takeNewName_37 : decode cX4_takeNewName 37 = .ok (.iconst 1, 1) := by decide +kernel
theorem dX4_takeNewName_38 : decode cX4_takeNewName 38 = .ok (.isub, 1) := by decide +kernel
theorem dX4_takeNewName_39 : decode cX4_takeNewName 39 = .ok (.invokevirtual 127, 3) := by decide +kernel
theorem dX4_takeNewName_42 : decode cX4_takeNewName 42 = .ok (.iconst 1, 1) := by decide +kernel
theorem dX4_takeNewName_43 : decode cX4_takeNewName 43 = .ok (.ireturn, 1) := by decide +kernel
theorem dX4_intBehind_0 : decode cX4_intBehind 0 = .ok (.aload_n 0, 1) := by decide +kernel
theorem dX4_intBehind_1 : decode cX4_intBehind 1 = .ok (.getfield 25, 3) := by decide +kernel
theorem dX4_intBehind_4 : decode cX4_intBehind 4 = .ok (.iload_n 1, 1) := by decide +kernel
theorem dX4_intBehind_5 : decode cX4_intBehind 5 = .ok (.if_icmp .ge 7, 3) := by decide +kernel
theorem dX4_intBehind_8 : decode cX4_intBehind 8 = .ok (.iconst 0, 1) := by decide +kernel
theorem dX4_intBehind_9 : decode cX4_intBehind 9 = .ok (.goto 18, 3) := by decide +kernel
theorem dX4_intBehind_12 : decode cX4_intBehind 12 = .ok (.aload_n 0, 1) := by decide +kernel
theorem dX4_intBehind_13 : decode cX4_intBehind 13 = .ok (.getfield 21, 3) := by decide +kernel
theorem dX4_intBehind_16 : decode cX4_intBehind 16 = .ok (.getfield 105, 3) := by decide +kernel
theorem dX4_intBehind_19 : decode cX4_intBehind 19 = .ok (.aload_n 0, 1) := by decide +kernel
theorem dX4_intBehind_20 : decode cX4_intBehind 20 = .ok (.getfield 25, 3) := by decide +kernel
theorem dX4_intBehind_23 : decode cX4_intBehind 23 = .ok (.iload_n 1, 1) := by decide +kernel
theorem dX4_intBehind_24 : decode cX4_intBehind 24 = .ok (.isub, 1) := by decide +kernel
theorem dX4_intBehind_25 : decode cX4_intBehind 25 = .ok (.laload, 1) := by decide +kernel
theorem dX4_intBehind_26 : decode cX4_intBehind 26 = .ok (.l2i, 1) := by decide +kernel
theorem dX4_intBehind_27 : decode cX4_intBehind 27 = .ok (.ireturn, 1) := by decide +kernel
theorem dX4_fail_0 : decode cX4_fail 0 = .ok (.aload_n 0, 1) := by decide +kernel
theorem dX4_fail_1 : decode cX4_fail 1 = .ok (.iload_n 1, 1) := by decide +kernel
theorem dX4_fail_2 : decode cX4_fail 2 = .ok (.putfield 9, 3) := by decide +kernel
theorem dX4_fail_5 : decode cX4_fail 5 = .ok (.iconst 0, 1) := by decide +kernel
theorem dX4_fail_6 : decode cX4_fail 6 = .ok (.ireturn, 1) := by decide +kernel
theorem dX4_keepLate_0 : decode cX4_keepLate 0 = .ok (.aload_n 0, 1) := by decide +kernel
theorem dX4_keepLate_1 : decode cX4_keepLate 1 = .ok (.getfield 28, 3) := by decide +kernel
theorem dX4_keepLate_4 : decode cX4_keepLate 4 = .ok (.ifCond .ne 21, 3) := by decide +kernel
theorem dX4_keepLate_7 : decode cX4_keepLate 7 = .ok (.aload_n 0, 1) := by decide +kernel
theorem dX4_keepLate_8 : decode cX4_keepLate 8 = .ok (.iload_n 1, 1) := by decide +kernel
theorem dX4_keepLate_9 : decode cX4_keepLate 9 = .ok (.putfield 28, 3) := by decide +kernel
theorem dX4_keepLate_12 : decode cX4_keepLate 12 = .ok (.aload_n 0, 1) := by decide +kernel
theorem dX4_keepLate_13 : decode cX4_keepLate 13 = .ok (.aload_n 0, 1) := by decide +kernel
theorem dX4_keepLate_14 : decode cX4_keepLate 14 = .ok (.getfield 21, 3) := by decide +kernel
theorem dX4_keepLate_17 : decode cX4_keepLate 17 = .ok (.getfield 51, 3) := by decide +kernel
theorem dX4_keepLate_20 : decode cX4_keepLate 20 = .ok (.iload_n 2, 1) := by decide +kernel
theorem dX4_keepLate_21 : decode cX4_keepLate 21 = .ok (.iaload, 1) := by decide +kernel
theorem dX4_keepLate_22 : decode cX4_keepLate 22 = .ok (.putfield 31, 3) := by decide +kernel
theorem dX4_keepLate_25 : decode cX4_keepLate 25 = .ok (.return_, 1) := by decide +kernel
theorem dX5_init_0 : decode cX5_init 0 = .ok (.aload_n 0, 1) := by decide +kernel
theorem dX5_init_1 : decode cX5_init 1 = .ok (.invokespecial 3, 3) := by decide +kernel
theorem dX5_init_4 : decode cX5_init 4 = .ok (.aload_n 0, 1) := by decide +kernel
theorem dX5_init_5 : decode cX5_init 5 = .ok (.iconst 0, 1) := by decide +kernel
theorem dX5_init_6 : decode cX5_init 6 = .ok (.putfield 9, 3) := by decide +kernel
theorem dX5_init_9 : decode cX5_init 9 = .ok (.aload_n 0, 1) := by decide +kernel
theorem dX5_init_10 : decode cX5_init 10 = .ok (.iconst 0, 1) := by decide +kernel
theorem dX5_init_11 : decode cX5_init 11 = .ok (.putfield 15, 3) := by decide +kernel
theorem dX5_init_14 : decode cX5_init 14 = .ok (.aload_n 0, 1) := by decide +kernel
theorem dX5_init_15 : decode cX5_init 15 = .ok (.iconst 0, 1) := by decide +kernel
theorem dX5_init_16 : decode cX5_init 16 = .ok (.putfield 18, 3) := by decide +kernel
theorem dX5_init_19 : decode cX5_init 19 = .ok (.aload_n 0, 1) := by decide +kernel
theorem dX5_init_20 : decode cX5_init 20 = .ok (.iconst 0, 1) := by decide +kernel
theorem dX5_init_21 : decode cX5_init 21 = .ok (.putfield 21, 3) := by decide +kernel
theorem dX5_init_24 : decode cX5_init 24 = .ok (.aload_n 0, 1) := by decide +kernel
theorem dX5_init_25 : decode cX5_init 25 = .ok (.iconst 4, 1) := by decide +kernel
theorem dX5_init_26 : decode cX5_init 26 = .ok (.newarray .int, 2) := by decide +kernel
theorem dX5_init_28 : decode cX5_init 28 = .ok (.putfield 24, 3) := by decide +kernel
theorem dX5_init_31 : decode cX5_init 31 = .ok (.aload_n 0, 1) := by decide +kernel
theorem dX5_init_32 : decode cX5_init 32 = .ok (.iconst 4, 1) := by decide +kernel
theorem dX5_init_33 : decode cX5_init 33 = .ok (.newarray .int, 2) := by decide +kernel
theorem dX5_init_35 : decode cX5_init 35 = .ok (.putfield 28, 3) := by decide +kernel
theorem dX5_init_38 : decode cX5_init 38 = .ok (.aload_n 0, 1) := by decide +kernel
theorem dX5_init_39 : decode cX5_init 39 = .ok (.bipush 7, 2) := by decide +kernel
theorem dX5_init_41 : decode cX5_init 41 = .ok (.newarray .int, 2) := by decide +kernel
theorem dX5_init_43 : decode cX5_init 43 = .ok (.putfield 31, 3) := by decide +kernel
theorem dX5_init_46 : decode cX5_init 46 = .ok (.return_, 1) := by decide +kernel
theorem dX5_begin_0 : decode cX5_begin 0 = .ok (.aload_n 0, 1) := by decide +kernel
theorem dX5_begin_1 : decode cX5_begin 1 = .ok (.iconst 0, 1) := by decide +kernel
theorem dX5_begin_2 : decode cX5_begin 2 = .ok (.putfield 9, 3) := by decide +kernel
theorem dX5_begin_5 : decode cX5_begin 5 = .ok (.aload_n 0, 1) := by decide +kernel
theorem dX5_begin_6 : decode cX5_begin 6 = .ok (.iconst 0, 1) := by decide +kernel
theorem dX5_begin_7 : decode cX5_begin 7 = .ok (.putfield 15, 3) := by decide +kernel
theorem dX5_begin_10 : decode cX5_begin 10 = .ok (.aload_n 0, 1) := by decide +kernel
theorem dX5_begin_11 : decode cX5_begin 11 = .ok (.iconst 0, 1) := by decide +kernel
theorem dX5_begin_12 : decode cX5_begin 12 = .ok (.putfield 18, 3) := by decide +kernel
theorem dX5_begin_15 : decode cX5_begin 15 = .ok (.aload_n 0, 1) := by decide +kernel
theorem dX5_begin_16 : decode cX5_begin 16 = .ok (.iconst 0, 1) := by decide +kernel
theorem dX5_begin_17 : decode cX5_begin 17 = .ok (.putfield 21, 3) := by decide +kernel
theorem dX5_begin_20 : decode cX5_begin 20 = .ok (.iconst 0, 1) := by decide +kernel
theorem dX5_begin_21 : decode cX5_begin 21 = .ok (.istore_n 1, 1) := by decide +kernel
theorem dX5_begin_22 : decode cX5_begin 22 = .ok (.iload_n 1, 1) := by decide +kernel
theorem dX5_begin_23 : decode cX5_begin 23 = .ok (.iconst 4, 1) := by decide +kernel
theorem dX5_begin_24 : decode cX5_begin 24 = .ok (.if_icmp .ge 23, 3) := by decide +kernel
theorem dX5_begin_27 : decode cX5_begin 27 = .ok (.aload_n 0, 1) := by decide +kernel
theorem dX5_begin_28 : decode cX5_begin 28 = .ok (.getfield 24, 3) := by decide +kernel
theorem dX5_begin_31 : decode cX5_begin 31 = .ok (.iload_n 1, 1) := by decide +kernel
theorem dX5_begin_32 : decode cX5_begin 32 = .ok (.iconst 0, 1) := by decide +kernel
theorem dX5_begin_33 : decode cX5_begin 33 = .ok (.iastore, 1) := by decide +kernel
theorem dX5_begin_34 : decode cX5_begin 34 = .ok (.aload_n 0, 1) := by decide +kernel
theorem dX5_begin_35 : decode cX5_begin 35 = .ok (.getfield 28, 3) := by decide +kernel
theorem dX5_begin_38 : decode cX5_begin 38 = .ok (.iload_n 1, 1) := by decide +kernel
theorem dX5_begin_39 : decode cX5_begin 39 = .ok (.iconst 0, 1) := by decide +kernel
theorem dX5_begin_40 : decode cX5_begin 40 = .ok (.iastore, 1) := by decide +kernel
theorem dX5_begin_41 : decode cX5_begin 41 = .ok (.iinc 1 1, 3) := by decide +kernel
theorem dX5_begin_44 : decode cX5_begin 44 = .ok (.goto (-22), 3) := by decide +kernel
theorem dX5_begin_47 : decode cX5_begin 47 = .ok (.iconst 0, 1) := by decide +kernel
theorem dX5_begin_48 : decode cX5_begin 48 = .ok (.istore_n 1, 1) := by decide +kernel
theorem dX5_begin_49 : decode cX5_begin 49 = .ok (.iload_n 1, 1) := by decide +kernel
theorem dX5_begin_50 : decode cX5_begin 50 = .ok (.bipush 7, 2) := by decide +kernel
theorem dX5_begin_52 : decode cX5_begin 52 = .ok (.if_icmp .ge 16, 3) := by decide +kernel
theorem dX5_begin_55 : decode cX5_begin 55 = .ok (.aload_n 0, 1) := by decide +kernel
theorem dX5_begin_56 : decode cX5_begin 56 = .ok (.getfield 31, 3) := by decide +kernel
theorem dX5_begin_59 : decode cX5_begin 59 = .ok (.iload_n 1, 1) := by decide +kernel
theorem dX5_begin_60 : decode cX5_begin 60 = .ok (.iconst 0, 1) := by decide +kernel
theorem dX5_begin_61 : decode cX5_begin 61 = .ok (.iastore, 1) := by decide +kernel
theorem dX5_begin_62 : decode cX5_begin 62 = .ok (.iinc 1 1, 3) := by decide +kernel
theorem dX5_begin_65 : decode cX5_begin 65 = .ok (.goto (-16), 3) := by decide +kernel
theorem dX5_begin_68 : decode cX5_begin 68 = .ok (.return_, 1) := by decide +kernel
theorem dX5_copyFrom_0 : decode cX5_copyFrom 0 = .ok (.aload_n 0, 1) := by decide +kernel
theorem dX5_copyFrom_1 : decode cX5_copyFrom 1 = .ok (.aload_n 1, 1) := by decide +kernel
theorem dX5_copyFrom_2 : decode cX5_copyFrom 2 = .ok (.getfield 9, 3) := by decide +kernel
theorem dX5_copyFrom_5 : decode cX5_copyFrom 5 = .ok (.putfield 9, 3) := by decide +kernel
theorem dX5_copyFrom_8 : decode cX5_copyFrom 8 = .ok (.aload_n 0, 1) := by decide +kernel
theorem dX5_copyFrom_9 : decode cX5_copyFrom 9 = .ok (.aload_n 1, 1) := by decide +kernel
theorem dX5_copyFrom_10 : decode cX5_copyFrom 10 = .ok (.getfield 15, 3) := by decide +kernel
theorem dX5_copyFrom_13 : decode cX5_copyFrom 13 = .ok (.putfield 15, 3) := by decide +kernel
theorem dX5_copyFrom_16 : decode cX5_copyFrom 16 = .ok (.aload_n 0, 1) := by decide +kernel
theorem dX5_copyFrom_17 : decode cX5_copyFrom 17 = .ok (.aload_n 1, 1) := by decide +kernel
theorem dX5_copyFrom_18 : decode cX5_copyFrom 18 = .ok (.getfield 18, 3) := by decide +kernel
theorem dX5_copyFrom_21 : decode cX5_copyFrom 21 = .ok (.putfield 18, 3) := by decide +kernel
theorem dX5_copyFrom_24 : decode cX5_copyFrom 24 = .ok (.aload_n 0, 1) := by decide +kernel
theorem dX5_copyFrom_25 : decode cX5_copyFrom 25 = .ok (.aload_n 1, 1) := by decide +kernel
theorem dX5_copyFrom_26 : decode cX5_copyFrom 26 = .ok (.getfield 21, 3) := by decide +kernel
theorem dX5_copyFrom_29 : decode cX5_copyFrom 29 = .ok (.putfield 21, 3) := by decide +kernel
theorem dX5_copyFrom_32 : decode cX5_copyFrom 32 = .ok (.iconst 0, 1) := by decide +kernel
theorem dX5_copyFrom_33 : decode cX5_copyFrom 33 = .ok (.istore_n 2, 1) := by decide +kernel
theorem dX5_copyFrom_34 : decode cX5_copyFrom 34 = .ok (.iload_n 2, 1) := by decide +kernel
theorem dX5_copyFrom_35 : decode cX5_copyFrom 35 = .ok (.iconst 4, 1) := by decide +kernel
theorem dX5_copyFrom_36 : decode cX5_copyFrom 36 = .ok (.if_icmp .ge 33, 3) := by decide +kernel
theorem dX5_copyFrom_39 : decode cX5_copyFrom 39 = .ok (.aload_n 0, 1) := by decide +kernel
theorem dX5_copyFrom_40 : decode cX5_copyFrom 40 = .ok (.getfield 24, 3) := by decide +kernel
theorem dX5_copyFrom_43 : decode cX5_copyFrom 43 = .ok (.iload_n 2, 1) := by decide +kernel
theorem dX5_copyFrom_44 : decode cX5_copyFrom 44 = .ok (.aload_n 1, 1) := by decide +kernel
theorem dX5_copyFrom_45 : decode cX5_copyFrom 45 = .ok (.getfield 24, 3) := by decide +kernel
theorem dX5_copyFrom_48 : decode cX5_copyFrom 48 = .ok (.iload_n 2, 1) := by decide +kernel
theorem dX5_copyFrom_49 : decode cX5_copyFrom 49 = .ok (.iaload, 1) := by decide +kernel
theorem dX5_copyFrom_50 : decode cX5_copyFrom 50 = .ok (.iastore, 1) := by decide +kernel
theorem dX5_copyFrom_51 : decode cX5_copyFrom 51 = .ok (.aload_n 0, 1) := by decide +kernel
theorem dX5_copyFrom_52 : decode cX5_copyFrom 52 = .ok (.getfield 28, 3) := by decide +kernel
theorem dX5_copyFrom_55 : decode cX5_copyFrom 55 = .ok (.iload_n 2, 1) := by decide +kernel
theorem dX5_copyFrom_56 : decode cX5_copyFrom 56 = .ok (.aload_n 1, 1) := by decide +kernel
theorem dX5_copyFrom_57 : decode cX5_copyFrom 57 = .ok (.getfield 28, 3) := by decide +kernel
theorem dX5_copyFrom_60 : decode cX5_copyFrom 60 = .ok (.iload_n 2, 1) := by decide +kernel
theorem dX5_copyFrom_61 : decode cX5_copyFrom 61 = .ok (.iaload, 1) := by decide +kernel
theorem dX5_copyFrom_62 : decode cX5_copyFrom 62 = .ok (.iastore, 1) := by decide +kernel
theorem dX5_copyFrom_63 : decode cX5_copyFrom 63 = .ok (.iinc 2 1, 3) := by decide +kernel
theorem dX5_copyFrom_66 : decode cX5_copyFrom 66 = .ok (.goto (-32), 3) := by decide +kernel
theorem dX5_copyFrom_69 : decode cX5_copyFrom 69 = .ok (.iconst 0, 1) := by decide +kernel
theorem dX5_copyFrom_70 : decode cX5_copyFrom 70 = .ok (.istore_n 2, 1) := by decide +kernel
theorem dX5_copyFrom_71 : decode cX5_copyFrom 71 = .ok (.iload_n 2, 1) := by decide +kernel
theorem dX5_copyFrom_72 : decode cX5_copyFrom 72 = .ok (.bipush 7, 2) := by decide +kernel
theorem dX5_copyFrom_74 : decode cX5_copyFrom 74 = .ok (.if_icmp .ge 21, 3) := by decide +kernel
theorem dX5_copyFrom_77 : decode cX5_copyFrom 77 = .ok (.aload_n 0, 1) := by decide +kernel
theorem dX5_copyFrom_78 : decode cX5_copyFrom 78 = .ok (.getfield 31, 3) := by decide +kernel
theorem dX5_copyFrom_81 : decode cX5_copyFrom 81 = .ok (.iload_n 2, 1) := by decide +kernel
theorem dX5_copyFrom_82 : decode cX5_copyFrom 82 = .ok (.aload_n 1, 1) := by decide +kernel
theorem dX5_copyFrom_83 : decode cX5_copyFrom 83 = .ok (.getfield 31, 3) := by decide +kernel
theorem dX5_copyFrom_86 : decode cX5_copyFrom 86 = .ok (.iload_n 2, 1) := by decide +kernel
theorem dX5_copyFrom_87 : decode cX5_copyFrom 87 = .ok (.iaload, 1) := by decide +kernel
theorem dX5_copyFrom_88 : decode cX5_copyFrom 88 = .ok (.iastore, 1) := by decide +kernel
theorem dX5_copyFrom_89 : decode cX5_copyFrom 89 = .ok (.iinc 2 1, 3) := by decide +kernel
theorem dX5_copyFrom_92 : decode cX5_copyFrom 92 = .ok (.goto (-21), 3) := by decide +kernel
theorem dX5_copyFrom_95 : decode cX5_copyFrom 95 = .ok (.return_, 1) := by decide +kernel
theorem dX5_isDead_0 : decode cX5_isDead 0 = .ok (.aload_n 0, 1) := by decide +kernel
theorem dX5_isDead_1 : decode cX5_isDead 1 = .ok (.getfield 18, 3) := by decide +kernel
theorem dX5_isDead_4 : decode cX5_isDead 4 = .ok (.iload_n 1, 1) := by decide +kernel
theorem dX5_isDead_5 : decode cX5_isDead 5 = .ok (.ishr, 1) := by decide +kernel
theorem dX5_isDead_6 : decode cX5_isDead 6 = .ok (.iconst 1, 1) := by decide +kernel
theorem dX5_isDead_7 : decode cX5_isDead 7 = .ok (.iand, 1) := by decide +kernel
theorem dX5_isDead_8 : decode cX5_isDead 8 = .ok (.iconst 1, 1) := by decide +kernel
theorem dX5_isDead_9 : decode cX5_isDead 9 = .ok (.if_icmp .ne 7, 3) := by decide +kernel
theorem dX5_isDead_12 : decode cX5_isDead 12 = .ok (.iconst 1, 1) := by decide +kernel
theorem dX5_isDead_13 : decode cX5_isDead 13 = .ok (.goto 4, 3) := by decide +kernel
theorem dX5_isDead_16 : decode cX5_isDead 16 = .ok (.iconst 0, 1) := by decide +kernel
theorem dX5_isDead_17 : decode cX5_isDead 17 = .ok (.ireturn, 1) := by decide +kernel
theorem dX5_isSold_0 : decode cX5_isSold 0 = .ok (.aload_n 0, 1) := by decide +kernel
theorem dX5_isSold_1 : decode cX5_isSold 1 = .ok (.getfield 21, 3) := by decide +kernel
theorem dX5_isSold_4 : decode cX5_isSold 4 = .ok (.iload_n 1, 1) := by decide +kernel
theorem dX5_isSold_5 : decode cX5_isSold 5 = .ok (.ishr, 1) := by decide +kernel
theorem dX5_isSold_6 : decode cX5_isSold 6 = .ok (.iconst 1, 1) := by decide +kernel
theorem dX5_isSold_7 : decode cX5_isSold 7 = .ok (.iand, 1) := by decide +kernel
theorem dX5_isSold_8 : decode cX5_isSold 8 = .ok (.iconst 1, 1) := by decide +kernel
theorem dX5_isSold_9 : decode cX5_isSold 9 = .ok (.if_icmp .ne 7, 3) := by decide +kernel
theorem dX5_isSold_12 : decode cX5_isSold 12 = .ok (.iconst 1, 1) := by decide +kernel
theorem dX5_isSold_13 : decode cX5_isSold 13 = .ok (.goto 4, 3) := by decide +kernel
theorem dX5_isSold_16 : decode cX5_isSold 16 = .ok (.iconst 0, 1) := by decide +kernel
theorem dX5_isSold_17 : decode cX5_isSold 17 = .ok (.ireturn, 1) := by decide +kernel
theorem dX5_isIn_0 : decode cX5_isIn 0 = .ok (.aload_n 0, 1) := by decide +kernel
theorem dX5_isIn_1 : decode cX5_isIn 1 = .ok (.getfield 24, 3) := by decide +kernel
theorem dX5_isIn_4 : decode cX5_isIn 4 = .ok (.iload_n 2, 1) := by decide +kernel
theorem dX5_isIn_5 : decode cX5_isIn 5 = .ok (.iaload, 1) := by decide +kernel
theorem dX5_isIn_6 : decode cX5_isIn 6 = .ok (.iload_n 1, 1) := by decide +kernel
theorem dX5_isIn_7 : decode cX5_isIn 7 = .ok (.ishr, 1) := by decide +kernel
theorem dX5_isIn_8 : decode cX5_isIn 8 = .ok (.iconst 1, 1) := by decide +kernel
theorem dX5_isIn_9 : decode cX5_isIn 9 = .ok (.iand, 1) := by decide +kernel
theorem dX5_isIn_10 : decode cX5_isIn 10 = .ok (.iconst 1, 1) := by decide +kernel
theorem dX5_isIn_11 : decode cX5_isIn 11 = .ok (.if_icmp .ne 7, 3) := by decide +kernel
theorem dX5_isIn_14 : decode cX5_isIn 14 = .ok (.iconst 1, 1) := by decide +kernel
theorem dX5_isIn_15 : decode cX5_isIn 15 = .ok (.goto 4, 3) := by decide +kernel
theorem dX5_isIn_18 : decode cX5_isIn 18 = .ok (.iconst 0, 1) := by decide +kernel
theorem dX5_isIn_19 : decode cX5_isIn 19 = .ok (.ireturn, 1) := by decide +kernel
theorem dX5_whereIs_0 : decode cX5_whereIs 0 = .ok (.iconst 0, 1) := by decide +kernel
theorem dX5_whereIs_1 : decode cX5_whereIs 1 = .ok (.istore_n 2, 1) := by decide +kernel
theorem dX5_whereIs_2 : decode cX5_whereIs 2 = .ok (.iload_n 2, 1) := by decide +kernel
theorem dX5_whereIs_3 : decode cX5_whereIs 3 = .ok (.iconst 4, 1) := by decide +kernel
theorem dX5_whereIs_4 : decode cX5_whereIs 4 = .ok (.if_icmp .ge 20, 3) := by decide +kernel
theorem dX5_whereIs_7 : decode cX5_whereIs 7 = .ok (.aload_n 0, 1) := by decide +kernel
theorem dX5_whereIs_8 : decode cX5_whereIs 8 = .ok (.iload_n 1, 1) := by decide +kernel
theorem dX5_whereIs_9 : decode cX5_whereIs 9 = .ok (.iload_n 2, 1) := by decide +kernel
theorem dX5_whereIs_10 : decode cX5_whereIs 10 = .ok (.invokevirtual 34, 3) := by decide +kernel
theorem dX5_whereIs_13 : decode cX5_whereIs 13 = .ok (.ifCond .eq 5, 3) := by decide +kernel
theorem dX5_whereIs_16 : decode cX5_whereIs 16 = .ok (.iload_n 2, 1) := by decide +kernel
theorem dX5_whereIs_17 : decode cX5_whereIs 17 = .ok (.ireturn, 1) := by decide +kernel
theorem dX5_whereIs_18 : decode cX5_whereIs 18 = .ok (.iinc 2 1, 3) := by decide +kernel
theorem dX5_whereIs_21 : decode cX5_whereIs 21 = .ok (.goto (-19), 3) := by decide +kernel
theorem dX5_whereIs_24 : decode cX5_whereIs 24 = .ok (.bipush (-2), 2) := by decide +kernel
theorem dX5_whereIs_26 : decode cX5_whereIs 26 = .ok (.ireturn, 1) := by decide +kernel
theorem dX5_takeOut_0 : decode cX5_takeOut 0 = .ok (.iconst 0, 1) := by decide +kernel
theorem dX5_takeOut_1 : decode cX5_takeOut 1 = .ok (.istore_n 2, 1) := by decide +kernel
theorem dX5_takeOut_2 : decode cX5_takeOut 2 = .ok (.iload_n 2, 1) := by decide +kernel
theorem dX5_takeOut_3 : decode cX5_takeOut 3 = .ok (.iconst 4, 1) := by decide +kernel
theorem dX5_takeOut_4 : decode cX5_takeOut 4 = .ok (.if_icmp .ge 23, 3) := by decide +kernel
theorem dX5_takeOut_7 : decode cX5_takeOut 7 = .ok (.aload_n 0, 1) := by decide +kernel
theorem dX5_takeOut_8 : decode cX5_takeOut 8 = .ok (.getfield 24, 3) := by decide +kernel
theorem dX5_takeOut_11 : decode cX5_takeOut 11 = .ok (.iload_n 2, 1) := by decide +kernel
theorem dX5_takeOut_12 : decode cX5_takeOut 12 = .ok (.dup2, 1) := by decide +kernel
theorem dX5_takeOut_13 : decode cX5_takeOut 13 = .ok (.iaload, 1) := by decide +kernel
theorem dX5_takeOut_14 : decode cX5_takeOut 14 = .ok (.iconst 1, 1) := by decide +kernel
theorem dX5_takeOut_15 : decode cX5_takeOut 15 = .ok (.iload_n 1, 1) := by decide +kernel
theorem dX5_takeOut_16 : decode cX5_takeOut 16 = .ok (.ishl, 1) := by decide +kernel
theorem dX5_takeOut_17 : decode cX5_takeOut 17 = .ok (.iconst (-1), 1) := by decide +kernel
theorem dX5_takeOut_18 : decode cX5_takeOut 18 = .ok (.ixor, 1) := by decide +kernel
theorem dX5_takeOut_19 : decode cX5_takeOut 19 = .ok (.iand, 1) := by decide +kernel
theorem dX5_takeOut_20 : decode cX5_takeOut 20 = .ok (.iastore, 1) := by decide +kernel
theorem dX5_takeOut_21 : decode cX5_takeOut 21 = .ok (.iinc 2 1, 3) := by decide +kernel
theorem dX5_takeOut_24 : decode cX5_takeOut 24 = .ok (.goto (-22), 3) := by decide +kernel
theorem dX5_takeOut_27 : decode cX5_takeOut 27 = .ok (.return_, 1) := by decide +kernel
theorem dX5_allIn_0 : decode cX5_allIn 0 = .ok (.iconst 0, 1) := by decide +kernel
theorem dX5_allIn_1 : decode cX5_allIn 1 = .ok (.istore_n 1, 1) := by decide +kernel
theorem dX5_allIn_2 : decode cX5_allIn 2 = .ok (.iconst 0, 1) := by decide +kernel
theorem dX5_allIn_3 : decode cX5_allIn 3 = .ok (.istore_n 2, 1) := by decide +kernel
theorem dX5_allIn_4 : decode cX5_allIn 4 = .ok (.iload_n 2, 1) := by decide +kernel
theorem dX5_allIn_5 : decode cX5_allIn 5 = .ok (.iconst 4, 1) := by decide +kernel
theorem dX5_allIn_6 : decode cX5_allIn 6 = .ok (.if_icmp .ge 18, 3) := by decide +kernel
theorem dX5_allIn_9 : decode cX5_allIn 9 = .ok (.iload_n 1, 1) := by decide +kernel
theorem dX5_allIn_10 : decode cX5_allIn 10 = .ok (.aload_n 0, 1) := by decide +kernel
theorem dX5_allIn_11 : decode cX5_allIn 11 = .ok (.getfield 24, 3) := by decide +kernel
theorem dX5_allIn_14 : decode cX5_allIn 14 = .ok (.iload_n 2, 1) := by decide +kernel
theorem dX5_allIn_15 : decode cX5_allIn 15 = .ok (.iaload, 1) := by decide +kernel
theorem dX5_allIn_16 : decode cX5_allIn 16 = .ok (.ior, 1) := by decide +kernel
theorem dX5_allIn_17 : decode cX5_allIn 17 = .ok (.istore_n 1, 1) := by decide +kernel
theorem dX5_allIn_18 : decode cX5_allIn 18 = .ok (.iinc 2 1, 3) := by decide +kernel
theorem dX5_allIn_21 : decode cX5_allIn 21 = .ok (.goto (-17), 3) := by decide +kernel
theorem dX5_allIn_24 : decode cX5_allIn 24 = .ok (.iload_n 1, 1) := by decide +kernel
theorem dX5_allIn_25 : decode cX5_allIn 25 = .ok (.ireturn, 1) := by decide +kernel
theorem dX5_alive_0 : decode cX5_alive 0 = .ok (.iconst 1, 1) := by decide +kernel
theorem dX5_alive_1 : decode cX5_alive 1 = .ok (.aload_n 1, 1) := by decide +kernel
theorem dX5_alive_2 : decode cX5_alive 2 = .ok (.getfield 38, 3) := by decide +kernel
theorem dX5_alive_5 : decode cX5_alive 5 = .ok (.ishl, 1) := by decide +kernel
theorem dX5_alive_6 : decode cX5_alive 6 = .ok (.iconst 1, 1) := by decide +kernel
theorem dX5_alive_7 : decode cX5_alive 7 = .ok (.isub, 1) := by decide +kernel
theorem dX5_alive_8 : decode cX5_alive 8 = .ok (.aload_n 0, 1) := by decide +kernel
theorem dX5_alive_9 : decode cX5_alive 9 = .ok (.getfield 18, 3) := by decide +kernel
theorem dX5_alive_12 : decode cX5_alive 12 = .ok (.iconst (-1), 1) := by decide +kernel
theorem dX5_alive_13 : decode cX5_alive 13 = .ok (.ixor, 1) := by decide +kernel
theorem dX5_alive_14 : decode cX5_alive 14 = .ok (.iand, 1) := by decide +kernel
theorem dX5_alive_15 : decode cX5_alive 15 = .ok (.ireturn, 1) := by decide +kernel
theorem dX6_init_0 : decode cX6_init 0 = .ok (.aload_n 0, 1) := by decide +kernel
theorem dX6_init_1 : decode cX6_init 1 = .ok (.invokespecial 3, 3) := by decide +kernel
theorem dX6_init_4 : decode cX6_init 4 = .ok (.aload_n 0, 1) := by decide +kernel
theorem dX6_init_5 : decode cX6_init 5 = .ok (.sipush 2000, 3) := by decide +kernel
theorem dX6_init_8 : decode cX6_init 8 = .ok (.newarray .byte, 2) := by decide +kernel
theorem dX6_init_10 : decode cX6_init 10 = .ok (.putfield 9, 3) := by decide +kernel
theorem dX6_init_13 : decode cX6_init 13 = .ok (.aload_n 0, 1) := by decide +kernel
theorem dX6_init_14 : decode cX6_init 14 = .ok (.iconst 0, 1) := by decide +kernel
theorem dX6_init_15 : decode cX6_init 15 = .ok (.putfield 15, 3) := by decide +kernel
theorem dX6_init_18 : decode cX6_init 18 = .ok (.return_, 1) := by decide +kernel
theorem dX6_hasRoomFor_0 : decode cX6_hasRoomFor 0 = .ok (.aload_n 0, 1) := by decide +kernel
theorem dX6_hasRoomFor_1 : decode cX6_hasRoomFor 1 = .ok (.getfield 15, 3) := by decide +kernel
theorem dX6_hasRoomFor_4 : decode cX6_hasRoomFor 4 = .ok (.iload_n 1, 1) := by decide +kernel
theorem dX6_hasRoomFor_5 : decode cX6_hasRoomFor 5 = .ok (.iadd, 1) := by decide +kernel
theorem dX6_hasRoomFor_6 : decode cX6_hasRoomFor 6 = .ok (.sipush 2000, 3) := by decide +kernel
theorem dX6_hasRoomFor_9 : decode cX6_hasRoomFor 9 = .ok (.if_icmp .gt 7, 3) := by decide +kernel
theorem dX6_hasRoomFor_12 : decode cX6_hasRoomFor 12 = .ok (.iconst 1, 1) := by decide +kernel
theorem dX6_hasRoomFor_13 : decode cX6_hasRoomFor 13 = .ok (.goto 4, 3) := by decide +kernel
theorem dX6_hasRoomFor_16 : decode cX6_hasRoomFor 16 = .ok (.iconst 0, 1) := by decide +kernel
theorem dX6_hasRoomFor_17 : decode cX6_hasRoomFor 17 = .ok (.ireturn, 1) := by decide +kernel
theorem dX6_addFour_0 : decode cX6_addFour 0 = .ok (.bipush 24, 2) := by decide +kernel
theorem dX6_addFour_2 : decode cX6_addFour 2 = .ok (.istore_n 2, 1) := by decide +kernel
theorem dX6_addFour_3 : decode cX6_addFour 3 = .ok (.iload_n 2, 1) := by decide +kernel
theorem dX6_addFour_4 : decode cX6_addFour 4 = .ok (.ifCond .lt 42, 3) := by decide +kernel
theorem dX6_addFour_7 : decode cX6_addFour 7 = .ok (.aload_n 0, 1) := by decide +kernel
theorem dX6_addFour_8 : decode cX6_addFour 8 = .ok (.getfield 15, 3) := by decide +kernel
theorem dX6_addFour_11 : decode cX6_addFour 11 = .ok (.sipush 2000, 3) := by decide +kernel
theorem dX6_addFour_14 : decode cX6_addFour 14 = .ok (.if_icmp .ge 26, 3) := by decide +kernel
theorem dX6_addFour_17 : decode cX6_addFour 17 = .ok (.aload_n 0, 1) := by decide +kernel
theorem dX6_addFour_18 : decode cX6_addFour 18 = .ok (.getfield 9, 3) := by decide +kernel
theorem dX6_addFour_21 : decode cX6_addFour 21 = .ok (.aload_n 0, 1) := by decide +kernel
theorem dX6_addFour_22 : decode cX6_addFour 22 = .ok (.getfield 15, 3) := by decide +kernel
theorem dX6_addFour_25 : decode cX6_addFour 25 = .ok (.iload_n 1, 1) := by decide +kernel
theorem dX6_addFour_26 : decode cX6_addFour 26 = .ok (.iload_n 2, 1) := by decide +kernel
theorem dX6_addFour_27 : decode cX6_addFour 27 = .ok (.ishr, 1) := by decide +kernel
theorem dX6_addFour_28 : decode cX6_addFour 28 = .ok (.i2b, 1) := by decide +kernel
theorem dX6_addFour_29 : decode cX6_addFour 29 = .ok (.bastore, 1) := by decide +kernel
theorem dX6_addFour_30 : decode cX6_addFour 30 = .ok (.aload_n 0, 1) := by decide +kernel
theorem dX6_addFour_31 : decode cX6_addFour 31 = .ok (.dup, 1) := by decide +kernel
theorem dX6_addFour_32 : decode cX6_addFour 32 = .ok (.getfield 15, 3) := by decide +kernel
theorem dX6_addFour_35 : decode cX6_addFour 35 = .ok (.iconst 1, 1) := by decide +kernel
theorem dX6_addFour_36 : decode cX6_addFour 36 = .ok (.iadd, 1) := by decide +kernel
theorem dX6_addFour_37 : decode cX6_addFour 37 = .ok (.putfield 15, 3) := by decide +kernel
theorem dX6_addFour_40 : decode cX6_addFour 40 = .ok (.iinc 2 (-8), 3) := by decide +kernel
theorem dX6_addFour_43 : decode cX6_addFour 43 = .ok (.goto (-40), 3) := by decide +kernel
theorem dX6_addFour_46 : decode cX6_addFour 46 = .ok (.return_, 1) := by decide +kernel
theorem dX7_init_0 : decode cX7_init 0 = .ok (.aload_n 0, 1) := by decide +kernel
theorem dX7_init_1 : decode cX7_init 1 = .ok (.invokespecial 3, 3) := by decide +kernel
theorem dX7_init_4 : decode cX7_init 4 = .ok (.aload_n 0, 1) := by decide +kernel
theorem dX7_init_5 : decode cX7_init 5 = .ok (.iconst 0, 1) := by decide +kernel
theorem dX7_init_6 : decode cX7_init 6 = .ok (.putfield 9, 3) := by decide +kernel
theorem dX7_init_9 : decode cX7_init 9 = .ok (.aload_n 0, 1) := by decide +kernel
theorem dX7_init_10 : decode cX7_init 10 = .ok (.iconst 4, 1) := by decide +kernel
theorem dX7_init_11 : decode cX7_init 11 = .ok (.newarray .int, 2) := by decide +kernel
theorem dX7_init_13 : decode cX7_init 13 = .ok (.putfield 15, 3) := by decide +kernel
theorem dX7_init_16 : decode cX7_init 16 = .ok (.aload_n 0, 1) := by decide +kernel
theorem dX7_init_17 : decode cX7_init 17 = .ok (.iconst 4, 1) := by decide +kernel
theorem dX7_init_18 : decode cX7_init 18 = .ok (.newarray .int, 2) := by decide +kernel
theorem dX7_init_20 : decode cX7_init 20 = .ok (.putfield 19, 3) := by decide +kernel
theorem dX7_init_23 : decode cX7_init 23 = .ok (.aload_n 0, 1) := by decide +kernel
theorem dX7_init_24 : decode cX7_init 24 = .ok (.iconst 0, 1) := by decide +kernel
theorem dX7_init_25 : decode cX7_init 25 = .ok (.putfield 22, 3) := by decide +kernel
theorem dX7_init_28 : decode cX7_init 28 = .ok (.aload_n 0, 1) := by decide +kernel
theorem dX7_init_29 : decode cX7_init 29 = .ok (.bipush 7, 2) := by decide +kernel
theorem dX7_init_31 : decode cX7_init 31 = .ok (.newarray .int, 2) := by decide +kernel
theorem dX7_init_33 : decode cX7_init 33 = .ok (.putfield 25, 3) := by decide +kernel
theorem dX7_init_36 : decode cX7_init 36 = .ok (.aload_n 0, 1) := by decide +kernel
theorem dX7_init_37 : decode cX7_init 37 = .ok (.bipush 7, 2) := by decide +kernel
theorem dX7_init_39 : decode cX7_init 39 = .ok (.newarray .int, 2) := by decide +kernel
theorem dX7_init_41 : decode cX7_init 41 = .ok (.putfield 28, 3) := by decide +kernel
theorem dX7_init_44 : decode cX7_init 44 = .ok (.aload_n 0, 1) := by decide +kernel
theorem dX7_init_45 : decode cX7_init 45 = .ok (.bipush 7, 2) := by decide +kernel
theorem dX7_init_47 : decode cX7_init 47 = .ok (.newarray .int, 2) := by decide +kernel
theorem dX7_init_49 : decode cX7_init 49 = .ok (.putfield 31, 3) := by decide +kernel
theorem dX7_init_52 : decode cX7_init 52 = .ok (.aload_n 0, 1) := by decide +kernel
theorem dX7_init_53 : decode cX7_init 53 = .ok (.iconst 0, 1) := by decide +kernel
theorem dX7_init_54 : decode cX7_init 54 = .ok (.putfield 34, 3) := by decide +kernel
theorem dX7_init_57 : decode cX7_init 57 = .ok (.aload_n 0, 1) := by decide +kernel
theorem dX7_init_58 : decode cX7_init 58 = .ok (.bipush 100, 2) := by decide +kernel
theorem dX7_init_60 : decode cX7_init 60 = .ok (.putfield 37, 3) := by decide +kernel
theorem dX7_init_63 : decode cX7_init 63 = .ok (.aload_n 0, 1) := by decide +kernel
theorem dX7_init_64 : decode cX7_init 64 = .ok (.iconst 0, 1) := by decide +kernel
theorem dX7_init_65 : decode cX7_init 65 = .ok (.putfield 40, 3) := by decide +kernel
theorem dX7_init_68 : decode cX7_init 68 = .ok (.aload_n 0, 1) := by decide +kernel
theorem dX7_init_69 : decode cX7_init 69 = .ok (.new 43, 3) := by decide +kernel
theorem dX7_init_72 : decode cX7_init 72 = .ok (.dup, 1) := by decide +kernel
theorem dX7_init_73 : decode cX7_init 73 = .ok (.invokespecial 45, 3) := by decide +kernel
theorem dX7_init_76 : decode cX7_init 76 = .ok (.putfield 46, 3) := by decide +kernel
theorem dX7_init_79 : decode cX7_init 79 = .ok (.aload_n 0, 1) := by decide +kernel
theorem dX7_init_80 : decode cX7_init 80 = .ok (.bipush 7, 2) := by decide +kernel
theorem dX7_init_82 : decode cX7_init 82 = .ok (.newarray .int, 2) := by decide +kernel
theorem dX7_init_84 : decode cX7_init 84 = .ok (.putfield 50, 3) := by decide +kernel
theorem dX7_init_87 : decode cX7_init 87 = .ok (.aload_n 0, 1) := by decide +kernel
theorem dX7_init_88 : decode cX7_init 88 = .ok (.bipush 7, 2) := by decide +kernel
theorem dX7_init_90 : decode cX7_init 90 = .ok (.newarray .long, 2) := by decide +kernel
theorem dX7_init_92 : decode cX7_init 92 = .ok (.putfield 53, 3) := by decide +kernel
theorem dX7_init_95 : decode cX7_init 95 = .ok (.aload_n 0, 1) := by decide +kernel
theorem dX7_init_96 : decode cX7_init 96 = .ok (.sipush 128, 3) := by decide +kernel
theorem dX7_init_99 : decode cX7_init 99 = .ok (.newarray .boolean, 2) := by decide +kernel
theorem dX7_init_101 : decode cX7_init 101 = .ok (.putfield 57, 3) := by decide +kernel
theorem dX7_init_104 : decode cX7_init 104 = .ok (.aload_n 0, 1) := by decide +kernel
theorem dX7_init_105 : decode cX7_init 105 = .ok (.bipush 7, 2) := by decide +kernel
theorem dX7_init_107 : decode cX7_init 107 = .ok (.newarray .int, 2) := by decide +kernel
theorem dX7_init_109 : decode cX7_init 109 = .ok (.putfield 61, 3) := by decide +kernel
theorem dX7_init_112 : decode cX7_init 112 = .ok (.aload_n 0, 1) := by decide +kernel
theorem dX7_init_113 : decode cX7_init 113 = .ok (.iconst 4, 1) := by decide +kernel
theorem dX7_init_114 : decode cX7_init 114 = .ok (.newarray .long, 2) := by decide +kernel
theorem dX7_init_116 : decode cX7_init 116 = .ok (.putfield 64, 3) := by decide +kernel
theorem dX7_init_119 : decode cX7_init 119 = .ok (.aload_n 0, 1) := by decide +kernel
theorem dX7_init_120 : decode cX7_init 120 = .ok (.bipush 7, 2) := by decide +kernel
theorem dX7_init_122 : decode cX7_init 122 = .ok (.newarray .long, 2) := by decide +kernel
theorem dX7_init_124 : decode cX7_init 124 = .ok (.putfield 67, 3) := by decide +kernel
theorem dX7_init_127 : decode cX7_init 127 = .ok (.aload_n 0, 1) := by decide +kernel
theorem dX7_init_128 : decode cX7_init 128 = .ok (.invokevirtual 70, 3) := by decide +kernel
theorem dX7_init_131 : decode cX7_init 131 = .ok (.aload_n 0, 1) := by decide +kernel
theorem dX7_init_132 : decode cX7_init 132 = .ok (.invokevirtual 73, 3) := by decide +kernel
theorem dX7_init_135 : decode cX7_init 135 = .ok (.return_, 1) := by decide +kernel
theorem dX7_begin_0 : decode cX7_begin 0 = .ok (.aload_n 0, 1) := by decide +kernel
theorem dX7_begin_1 : decode cX7_begin 1 = .ok (.iconst 0, 1) := by decide +kernel
theorem dX7_begin_2 : decode cX7_begin 2 = .ok (.putfield 9, 3) := by decide +kernel
theorem dX7_begin_5 : decode cX7_begin 5 = .ok (.aload_n 0, 1) := by decide +kernel
theorem dX7_begin_6 : decode cX7_begin 6 = .ok (.iconst 0, 1) := by decide +kernel
theorem dX7_begin_7 : decode cX7_begin 7 = .ok (.putfield 22, 3) := by decide +kernel
theorem dX7_begin_10 : decode cX7_begin 10 = .ok (.aload_n 0, 1) := by decide +kernel
theorem dX7_begin_11 : decode cX7_begin 11 = .ok (.iconst 0, 1) := by decide +kernel
theorem dX7_begin_12 : decode cX7_begin 12 = .ok (.putfield 34, 3) := by decide +kernel
theorem dX7_begin_15 : decode cX7_begin 15 = .ok (.aload_n 0, 1) := by decide +kernel
theorem dX7_begin_16 : decode cX7_begin 16 = .ok (.bipush 100, 2) := by decide +kernel
theorem dX7_begin_18 : decode cX7_begin 18 = .ok (.putfield 37, 3) := by decide +kernel
theorem dX7_begin_21 : decode cX7_begin 21 = .ok (.aload_n 0, 1) := by decide +kernel
theorem dX7_begin_22 : decode cX7_begin 22 = .ok (.iconst 0, 1) := by decide +kernel
theorem dX7_begin_23 : decode cX7_begin 23 = .ok (.putfield 40, 3) := by decide +kernel
theorem dX7_begin_26 : decode cX7_begin 26 = .ok (.aload_n 0, 1) := by decide +kernel
theorem dX7_begin_27 : decode cX7_begin 27 = .ok (.getfield 46, 3) := by decide +kernel
theorem dX7_begin_30 : decode cX7_begin 30 = .ok (.invokevirtual 76, 3) := by decide +kernel
theorem dX7_begin_33 : decode cX7_begin 33 = .ok (.return_, 1) := by decide +kernel
theorem dX7_addSunday_0 : decode cX7_addSunday 0 = .ok (.aload_n 0, 1) := by decide +kernel
theorem dX7_addSunday_1 : decode cX7_addSunday 1 = .ok (.getfield 9, 3) := by decide +kernel
theorem dX7_addSunday_4 : decode cX7_addSunday 4 = .ok (.iconst 4, 1) := by decide +kernel
theorem dX7_addSunday_5 : decode cX7_addSunday 5 = .ok (.if_icmp .ge 44, 3) := by decide +kernel
theorem dX7_addSunday_8 : decode cX7_addSunday 8 = .ok (.aload_n 0, 1) := by decide +kernel
theorem dX7_addSunday_9 : decode cX7_addSunday 9 = .ok (.getfield 64, 3) := by decide +kernel
theorem dX7_addSunday_12 : decode cX7_addSunday 12 = .ok (.aload_n 0, 1) := by decide +kernel
theorem dX7_addSunday_13 : decode cX7_addSunday 13 = .ok (.getfield 9, 3) := by decide +kernel
theorem dX7_addSunday_16 : decode cX7_addSunday 16 = .ok (.lload_n 1, 1) := by decide +kernel
theorem dX7_addSunday_17 : decode cX7_addSunday 17 = .ok (.lastore, 1) := by decide +kernel
theorem dX7_addSunday_18 : decode cX7_addSunday 18 = .ok (.aload_n 0, 1) := by decide +kernel
theorem dX7_addSunday_19 : decode cX7_addSunday 19 = .ok (.getfield 15, 3) := by decide +kernel
theorem dX7_addSunday_22 : decode cX7_addSunday 22 = .ok (.aload_n 0, 1) := by decide +kernel
theorem dX7_addSunday_23 : decode cX7_addSunday 23 = .ok (.getfield 9, 3) := by decide +kernel
theorem dX7_addSunday_26 : decode cX7_addSunday 26 = .ok (.iload_n 3, 1) := by decide +kernel
theorem dX7_addSunday_27 : decode cX7_addSunday 27 = .ok (.iastore, 1) := by decide +kernel
theorem dX7_addSunday_28 : decode cX7_addSunday 28 = .ok (.aload_n 0, 1) := by decide +kernel
theorem dX7_addSunday_29 : decode cX7_addSunday 29 = .ok (.getfield 19, 3) := by decide +kernel
theorem dX7_addSunday_32 : decode cX7_addSunday 32 = .ok (.aload_n 0, 1) := by decide +kernel
theorem dX7_addSunday_33 : decode cX7_addSunday 33 = .ok (.getfield 9, 3) := by decide +kernel
theorem dX7_addSunday_36 : decode cX7_addSunday 36 = .ok (.iload 4, 2) := by decide +kernel
theorem dX7_addSunday_38 : decode cX7_addSunday 38 = .ok (.iastore, 1) := by decide +kernel
theorem dX7_addSunday_39 : decode cX7_addSunday 39 = .ok (.aload_n 0, 1) := by decide +kernel
theorem dX7_addSunday_40 : decode cX7_addSunday 40 = .ok (.dup, 1) := by decide +kernel
theorem dX7_addSunday_41 : decode cX7_addSunday 41 = .ok (.getfield 9, 3) := by decide +kernel
theorem dX7_addSunday_44 : decode cX7_addSunday 44 = .ok (.iconst 1, 1) := by decide +kernel
theorem dX7_addSunday_45 : decode cX7_addSunday 45 = .ok (.iadd, 1) := by decide +kernel
theorem dX7_addSunday_46 : decode cX7_addSunday 46 = .ok (.putfield 9, 3) := by decide +kernel
theorem dX7_addSunday_49 : decode cX7_addSunday 49 = .ok (.return_, 1) := by decide +kernel
theorem dX7_addGuest_0 : decode cX7_addGuest 0 = .ok (.aload_n 0, 1) := by decide +kernel
theorem dX7_addGuest_1 : decode cX7_addGuest 1 = .ok (.getfield 22, 3) := by decide +kernel
theorem dX7_addGuest_4 : decode cX7_addGuest 4 = .ok (.bipush 7, 2) := by decide +kernel
theorem dX7_addGuest_6 : decode cX7_addGuest 6 = .ok (.if_icmp .ge 65, 3) := by decide +kernel
theorem dX7_addGuest_9 : decode cX7_addGuest 9 = .ok (.aload_n 0, 1) := by decide +kernel
theorem dX7_addGuest_10 : decode cX7_addGuest 10 = .ok (.getfield 67, 3) := by decide +kernel
theorem dX7_addGuest_13 : decode cX7_addGuest 13 = .ok (.aload_n 0, 1) := by decide +kernel
theorem dX7_addGuest_14 : decode cX7_addGuest 14 = .ok (.getfield 22, 3) := by decide +kernel
theorem dX7_addGuest_17 : decode cX7_addGuest 17 = .ok (.lload_n 1, 1) := by decide +kernel
theorem dX7_addGuest_18 : decode cX7_addGuest 18 = .ok (.lastore, 1) := by decide +kernel
theorem dX7_addGuest_19 : decode cX7_addGuest 19 = .ok (.aload_n 0, 1) := by decide +kernel
theorem dX7_addGuest_20 : decode cX7_addGuest 20 = .ok (.getfield 25, 3) := by decide +kernel
theorem dX7_addGuest_23 : decode cX7_addGuest 23 = .ok (.aload_n 0, 1) := by decide +kernel
theorem dX7_addGuest_24 : decode cX7_addGuest 24 = .ok (.getfield 22, 3) := by decide +kernel
theorem dX7_addGuest_27 : decode cX7_addGuest 27 = .ok (.iload_n 3, 1) := by decide +kernel
theorem dX7_addGuest_28 : decode cX7_addGuest 28 = .ok (.iastore, 1) := by decide +kernel
theorem dX7_addGuest_29 : decode cX7_addGuest 29 = .ok (.aload_n 0, 1) := by decide +kernel
theorem dX7_addGuest_30 : decode cX7_addGuest 30 = .ok (.getfield 28, 3) := by decide +kernel
theorem dX7_addGuest_33 : decode cX7_addGuest 33 = .ok (.aload_n 0, 1) := by decide +kernel
theorem dX7_addGuest_34 : decode cX7_addGuest 34 = .ok (.getfield 22, 3) := by decide +kernel
theorem dX7_addGuest_37 : decode cX7_addGuest 37 = .ok (.iload 4, 2) := by decide +kernel
theorem dX7_addGuest_39 : decode cX7_addGuest 39 = .ok (.iastore, 1) := by decide +kernel
theorem dX7_addGuest_40 : decode cX7_addGuest 40 = .ok (.aload_n 0, 1) := by decide +kernel
theorem dX7_addGuest_41 : decode cX7_addGuest 41 = .ok (.getfield 31, 3) := by decide +kernel
theorem dX7_addGuest_44 : decode cX7_addGuest 44 = .ok (.aload_n 0, 1) := by decide +kernel
theorem dX7_addGuest_45 : decode cX7_addGuest 45 = .ok (.getfield 22, 3) := by decide +kernel
theorem dX7_addGuest_48 : decode cX7_addGuest 48 = .ok (.iload 5, 2) := by decide +kernel
theorem dX7_addGuest_50 : decode cX7_addGuest 50 = .ok (.iastore, 1) := by decide +kernel
theorem dX7_addGuest_51 : decode cX7_addGuest 51 = .ok (.aload_n 0, 1) := by decide +kernel
theorem dX7_addGuest_52 : decode cX7_addGuest 52 = .ok (.getfield 61, 3) := by decide +kernel
theorem dX7_addGuest_55 : decode cX7_addGuest 55 = .ok (.aload_n 0, 1) := by decide +kernel
theorem dX7_addGuest_56 : decode cX7_addGuest 56 = .ok (.getfield 22, 3) := by decide +kernel
theorem dX7_addGuest_59 : decode cX7_addGuest 59 = .ok (.iconst 0, 1) := by decide +kernel
theorem dX7_addGuest_60 : decode cX7_addGuest 60 = .ok (.iastore, 1) := by decide +kernel
theorem dX7_addGuest_61 : decode cX7_addGuest 61 = .ok (.aload_n 0, 1) := by decide +kernel
theorem dX7_addGuest_62 : decode cX7_addGuest 62 = .ok (.dup, 1) := by decide +kernel
theorem dX7_addGuest_63 : decode cX7_addGuest 63 = .ok (.getfield 22, 3) := by decide +kernel
theorem dX7_addGuest_66 : decode cX7_addGuest 66 = .ok (.iconst 1, 1) := by decide +kernel
theorem dX7_addGuest_67 : decode cX7_addGuest 67 = .ok (.iadd, 1) := by decide +kernel
theorem dX7_addGuest_68 : decode cX7_addGuest 68 = .ok (.putfield 22, 3) := by decide +kernel
theorem dX7_addGuest_71 : decode cX7_addGuest 71 = .ok (.return_, 1) := by decide +kernel
theorem dX7_addFoes_0 : decode cX7_addFoes 0 = .ok (.aload_n 0, 1) := by decide +kernel
theorem dX7_addFoes_1 : decode cX7_addFoes 1 = .ok (.dup, 1) := by decide +kernel
theorem dX7_addFoes_2 : decode cX7_addFoes 2 = .ok (.getfield 34, 3) := by decide +kernel
theorem dX7_addFoes_5 : decode cX7_addFoes 5 = .ok (.iconst 1, 1) := by decide +kernel
theorem dX7_addFoes_6 : decode cX7_addFoes 6 = .ok (.iadd, 1) := by decide +kernel
theorem dX7_addFoes_7 : decode cX7_addFoes 7 = .ok (.putfield 34, 3) := by decide +kernel
theorem dX7_addFoes_10 : decode cX7_addFoes 10 = .ok (.iload_n 1, 1) := by decide +kernel
theorem dX7_addFoes_11 : decode cX7_addFoes 11 = .ok (.ifCond .lt 31, 3) := by decide +kernel
theorem dX7_addFoes_14 : decode cX7_addFoes 14 = .ok (.iload_n 2, 1) := by decide +kernel
theorem dX7_addFoes_15 : decode cX7_addFoes 15 = .ok (.ifCond .lt 27, 3) := by decide +kernel
theorem dX7_addFoes_18 : decode cX7_addFoes 18 = .ok (.aload_n 0, 1) := by decide +kernel
theorem dX7_addFoes_19 : decode cX7_addFoes 19 = .ok (.getfield 61, 3) := by decide +kernel
theorem dX7_addFoes_22 : decode cX7_addFoes 22 = .ok (.iload_n 1, 1) := by decide +kernel
theorem dX7_addFoes_23 : decode cX7_addFoes 23 = .ok (.dup2, 1) := by decide +kernel
theorem dX7_addFoes_24 : decode cX7_addFoes 24 = .ok (.iaload, 1) := by decide +kernel
theorem dX7_addFoes_25 : decode cX7_addFoes 25 = .ok (.iconst 1, 1) := by decide +kernel
theorem dX7_addFoes_26 : decode cX7_addFoes 26 = .ok (.iload_n 2, 1) := by decide +kernel
theorem dX7_addFoes_27 : decode cX7_addFoes 27 = .ok (.ishl, 1) := by decide +kernel
theorem dX7_addFoes_28 : decode cX7_addFoes 28 = .ok (.ior, 1) := by decide +kernel
theorem dX7_addFoes_29 : decode cX7_addFoes 29 = .ok (.iastore, 1) := by decide +kernel
theorem dX7_addFoes_30 : decode cX7_addFoes 30 = .ok (.aload_n 0, 1) := by decide +kernel
theorem dX7_addFoes_31 : decode cX7_addFoes 31 = .ok (.getfield 61, 3) := by decide +kernel
theorem dX7_addFoes_34 : decode cX7_addFoes 34 = .ok (.iload_n 2, 1) := by decide +kernel
theorem dX7_addFoes_35 : decode cX7_addFoes 35 = .ok (.dup2, 1) := by decide +kernel
theorem dX7_addFoes_36 : decode cX7_addFoes 36 = .ok (.iaload, 1) := by decide +kernel
theorem dX7_addFoes_37 : decode cX7_addFoes 37 = .ok (.iconst 1, 1) := by decide +kernel
theorem dX7_addFoes_38 : decode cX7_addFoes 38 = .ok (.iload_n 1, 1) := by decide +kernel
theorem dX7_addFoes_39 : decode cX7_addFoes 39 = .ok (.ishl, 1) := by decide +kernel
theorem dX7_addFoes_40 : decode cX7_addFoes 40 = .ok (.ior, 1) := by decide +kernel
theorem dX7_addFoes_41 : decode cX7_addFoes 41 = .ok (.iastore, 1) := by decide +kernel
theorem dX7_addFoes_42 : decode cX7_addFoes 42 = .ok (.return_, 1) := by decide +kernel
theorem dX7_areFoes_0 : decode cX7_areFoes 0 = .ok (.aload_n 0, 1) := by decide +kernel
theorem dX7_areFoes_1 : decode cX7_areFoes 1 = .ok (.getfield 61, 3) := by decide +kernel
theorem dX7_areFoes_4 : decode cX7_areFoes 4 = .ok (.iload_n 1, 1) := by decide +kernel
theorem dX7_areFoes_5 : decode cX7_areFoes 5 = .ok (.iaload, 1) := by decide +kernel
theorem dX7_areFoes_6 : decode cX7_areFoes 6 = .ok (.iload_n 2, 1) := by decide +kernel
theorem dX7_areFoes_7 : decode cX7_areFoes 7 = .ok (.ishr, 1) := by decide +kernel
theorem dX7_areFoes_8 : decode cX7_areFoes 8 = .ok (.iconst 1, 1) := by decide +kernel
theorem dX7_areFoes_9 : decode cX7_areFoes 9 = .ok (.iand, 1) := by decide +kernel
theorem dX7_areFoes_10 : decode cX7_areFoes 10 = .ok (.iconst 1, 1) := by decide +kernel
theorem dX7_areFoes_11 : decode cX7_areFoes 11 = .ok (.if_icmp .ne 7, 3) := by decide +kernel
theorem dX7_areFoes_14 : decode cX7_areFoes 14 = .ok (.iconst 1, 1) := by decide +kernel
theorem dX7_areFoes_15 : decode cX7_areFoes 15 = .ok (.goto 4, 3) := by decide +kernel
theorem dX7_areFoes_18 : decode cX7_areFoes 18 = .ok (.iconst 0, 1) := by decide +kernel
theorem dX7_areFoes_19 : decode cX7_areFoes 19 = .ok (.ireturn, 1) := by decide +kernel
theorem dX7_isNamed_0 : decode cX7_isNamed 0 = .ok (.iconst 0, 1) := by decide +kernel
theorem dX7_isNamed_1 : decode cX7_isNamed 1 = .ok (.istore_n 3, 1) := by decide +kernel
theorem dX7_isNamed_2 : decode cX7_isNamed 2 = .ok (.iload_n 3, 1) := by decide +kernel
theorem dX7_isNamed_3 : decode cX7_isNamed 3 = .ok (.aload_n 0, 1) := by decide +kernel
theorem dX7_isNamed_4 : decode cX7_isNamed 4 = .ok (.getfield 9, 3) := by decide +kernel
theorem dX7_isNamed_7 : decode cX7_isNamed 7 = .ok (.if_icmp .ge 22, 3) := by decide +kernel
theorem dX7_isNamed_10 : decode cX7_isNamed 10 = .ok (.aload_n 0, 1) := by decide +kernel
theorem dX7_isNamed_11 : decode cX7_isNamed 11 = .ok (.getfield 64, 3) := by decide +kernel
theorem dX7_isNamed_14 : decode cX7_isNamed 14 = .ok (.iload_n 3, 1) := by decide +kernel
theorem dX7_isNamed_15 : decode cX7_isNamed 15 = .ok (.laload, 1) := by decide +kernel
theorem dX7_isNamed_16 : decode cX7_isNamed 16 = .ok (.lload_n 1, 1) := by decide +kernel
theorem dX7_isNamed_17 : decode cX7_isNamed 17 = .ok (.lcmp, 1) := by decide +kernel
theorem dX7_isNamed_18 : decode cX7_isNamed 18 = .ok (.ifCond .ne 5, 3) := by decide +kernel
theorem dX7_isNamed_21 : decode cX7_isNamed 21 = .ok (.iconst 1, 1) := by decide +kernel
theorem dX7_isNamed_22 : decode cX7_isNamed 22 = .ok (.ireturn, 1) := by decide +kernel
theorem dX7_isNamed_23 : decode cX7_isNamed 23 = .ok (.iinc 3 1, 3) := by decide +kernel
theorem dX7_isNamed_26 : decode cX7_isNamed 26 = .ok (.goto (-24), 3) := by decide +kernel
theorem dX7_isNamed_29 : decode cX7_isNamed 29 = .ok (.aload_n 0, 1) := by decide +kernel
theorem dX7_isNamed_30 : decode cX7_isNamed 30 = .ok (.lload_n 1, 1) := by decide +kernel
theorem dX7_isNamed_31 : decode cX7_isNamed 31 = .ok (.invokevirtual 77, 3) := by decide +kernel
theorem dX7_isNamed_34 : decode cX7_isNamed 34 = .ok (.ifCond .lt 7, 3) := by decide +kernel
theorem dX7_isNamed_37 : decode cX7_isNamed 37 = .ok (.iconst 1, 1) := by decide +kernel
theorem dX7_isNamed_38 : decode cX7_isNamed 38 = .ok (.goto 4, 3) := by decide +kernel
theorem dX7_isNamed_41 : decode cX7_isNamed 41 = .ok (.iconst 0, 1) := by decide +kernel
theorem dX7_isNamed_42 : decode cX7_isNamed 42 = .ok (.ireturn, 1) := by decide +kernel
theorem dX7_guestNamed_0 : decode cX7_guestNamed 0 = .ok (.iconst 0, 1) := by decide +kernel
theorem dX7_guestNamed_1 : decode cX7_guestNamed 1 = .ok (.istore_n 3, 1) := by decide +kernel
theorem dX7_guestNamed_2 : decode cX7_guestNamed 2 = .ok (.iload_n 3, 1) := by decide +kernel
theorem dX7_guestNamed_3 : decode cX7_guestNamed 3 = .ok (.aload_n 0, 1) := by decide +kernel
theorem dX7_guestNamed_4 : decode cX7_guestNamed 4 = .ok (.getfield 22, 3) := by decide +kernel
theorem dX7_guestNamed_7 : decode cX7_guestNamed 7 = .ok (.if_icmp .ge 22, 3) := by decide +kernel
theorem dX7_guestNamed_10 : decode cX7_guestNamed 10 = .ok (.aload_n 0, 1) := by decide +kernel
theorem dX7_guestNamed_11 : decode cX7_guestNamed 11 = .ok (.getfield 67, 3) := by decide +kernel
theorem dX7_guestNamed_14 : decode cX7_guestNamed 14 = .ok (.iload_n 3, 1) := by decide +kernel
theorem dX7_guestNamed_15 : decode cX7_guestNamed 15 = .ok (.laload, 1) := by decide +kernel
theorem dX7_guestNamed_16 : decode cX7_guestNamed 16 = .ok (.lload_n 1, 1) := by decide +kernel
theorem dX7_guestNamed_17 : decode cX7_guestNamed 17 = .ok (.lcmp, 1) := by decide +kernel
theorem dX7_guestNamed_18 : decode cX7_guestNamed 18 = .ok (.ifCond .ne 5, 3) := by decide +kernel
theorem dX7_guestNamed_21 : decode cX7_guestNamed 21 = .ok (.iload_n 3, 1) := by decide +kernel
theorem dX7_guestNamed_22 : decode cX7_guestNamed 22 = .ok (.ireturn, 1) := by decide +kernel
theorem dX7_guestNamed_23 : decode cX7_guestNamed 23 = .ok (.iinc 3 1, 3) := by decide +kernel
theorem dX7_guestNamed_26 : decode cX7_guestNamed 26 = .ok (.goto (-24), 3) := by decide +kernel
theorem dX7_guestNamed_29 : decode cX7_guestNamed 29 = .ok (.iconst (-1), 1) := by decide +kernel
theorem dX7_guestNamed_30 : decode cX7_guestNamed 30 = .ok (.ireturn, 1) := by decide +kernel
theorem dX7_findClashes_0 : decode cX7_findClashes 0 = .ok (.iconst 0, 1) := by decide +kernel
theorem dX7_findClashes_1 : decode cX7_findClashes 1 = .ok (.istore_n 1, 1) := by decide +kernel
theorem dX7_findClashes_2 : decode cX7_findClashes 2 = .ok (.iload_n 1, 1) := by decide +kernel
theorem dX7_findClashes_3 : decode cX7_findClashes 3 = .ok (.aload_n 0, 1) := by decide +kernel
theorem dX7_findClashes_4 : decode cX7_findClashes 4 = .ok (.getfield 22, 3) := by decide +kernel
theorem dX7_findClashes_7 : decode cX7_findClashes 7 = .ok (.if_icmp .ge 32, 3) := by decide +kernel
theorem dX7_findClashes_10 : decode cX7_findClashes 10 = .ok (.aload_n 0, 1) := by decide +kernel
theorem dX7_findClashes_11 : decode cX7_findClashes 11 = .ok (.getfield 53, 3) := by decide +kernel
theorem dX7_findClashes_14 : decode cX7_findClashes 14 = .ok (.iload_n 1, 1) := by decide +kernel
theorem dX7_findClashes_15 : decode cX7_findClashes 15 = .ok (.lconst 1, 1) := by decide +kernel
theorem dX7_findClashes_16 : decode cX7_findClashes 16 = .ok (.aload_n 0, 1) := by decide +kernel
theorem dX7_findClashes_17 : decode cX7_findClashes 17 = .ok (.getfield 28, 3) := by decide +kernel
theorem dX7_findClashes_20 : decode cX7_findClashes 20 = .ok (.iload_n 1, 1) := by decide +kernel
theorem dX7_findClashes_21 : decode cX7_findClashes 21 = .ok (.iaload, 1) := by decide +kernel
theorem dX7_findClashes_22 : decode cX7_findClashes 22 = .ok (.lshl, 1) := by decide +kernel
theorem dX7_findClashes_23 : decode cX7_findClashes 23 = .ok (.lconst 1, 1) := by decide +kernel
theorem dX7_findClashes_24 : decode cX7_findClashes 24 = .ok (.lsub, 1) := by decide +kernel
theorem dX7_findClashes_25 : decode cX7_findClashes 25 = .ok (.aload_n 0, 1) := by decide +kernel
theorem dX7_findClashes_26 : decode cX7_findClashes 26 = .ok (.getfield 25, 3) := by decide +kernel
theorem dX7_findClashes_29 : decode cX7_findClashes 29 = .ok (.iload_n 1, 1) := by decide +kernel
theorem dX7_findClashes_30 : decode cX7_findClashes 30 = .ok (.iaload, 1) := by decide +kernel
theorem dX7_findClashes_31 : decode cX7_findClashes 31 = .ok (.lshl, 1) := by decide +kernel
theorem dX7_findClashes_32 : decode cX7_findClashes 32 = .ok (.lastore, 1) := by decide +kernel
theorem dX7_findClashes_33 : decode cX7_findClashes 33 = .ok (.iinc 1 1, 3) := by decide +kernel
theorem dX7_findClashes_36 : decode cX7_findClashes 36 = .ok (.goto (-34), 3) := by decide +kernel
theorem dX7_findClashes_39 : decode cX7_findClashes 39 = .ok (.iconst 0, 1) := by decide +kernel
theorem dX7_findClashes_40 : decode cX7_findClashes 40 = .ok (.istore_n 1, 1) := by decide +kernel
theorem dX7_findClashes_41 : decode cX7_findClashes 41 = .ok (.iload_n 1, 1) := by decide +kernel
theorem dX7_findClashes_42 : decode cX7_findClashes 42 = .ok (.aload_n 0, 1) := by decide +kernel
theorem dX7_findClashes_43 : decode cX7_findClashes 43 = .ok (.getfield 22, 3) := by decide +kernel
theorem dX7_findClashes_46 : decode cX7_findClashes 46 = .ok (.if_icmp .ge 72, 3) := by decide +kernel
theorem dX7_findClashes_49 : decode cX7_findClashes 49 = .ok (.aload_n 0, 1) := by decide +kernel
theorem dX7_findClashes_50 : decode cX7_findClashes 50 = .ok (.getfield 50, 3) := by decide +kernel
theorem dX7_findClashes_53 : decode cX7_findClashes 53 = .ok (.iload_n 1, 1) := by decide +kernel
theorem dX7_findClashes_54 : decode cX7_findClashes 54 = .ok (.aload_n 0, 1) := by decide +kernel
theorem dX7_findClashes_55 : decode cX7_findClashes 55 = .ok (.getfield 61, 3) := by decide +kernel
theorem dX7_findClashes_58 : decode cX7_findClashes 58 = .ok (.iload_n 1, 1) := by decide +kernel
theorem dX7_findClashes_59 : decode cX7_findClashes 59 = .ok (.iaload, 1) := by decide +kernel
theorem dX7_findClashes_60 : decode cX7_findClashes 60 = .ok (.iastore, 1) := by decide +kernel
theorem dX7_findClashes_61 : decode cX7_findClashes 61 = .ok (.iconst 0, 1) := by decide +kernel
theorem dX7_findClashes_62 : decode cX7_findClashes 62 = .ok (.istore_n 2, 1) := by decide +kernel
theorem dX7_findClashes_63 : decode cX7_findClashes 63 = .ok (.iload_n 2, 1) := by decide +kernel
theorem dX7_findClashes_64 : decode cX7_findClashes 64 = .ok (.aload_n 0, 1) := by decide +kernel
theorem dX7_findClashes_65 : decode cX7_findClashes 65 = .ok (.getfield 22, 3) := by decide +kernel
theorem dX7_findClashes_68 : decode cX7_findClashes 68 = .ok (.if_icmp .ge 44, 3) := by decide +kernel
theorem dX7_findClashes_71 : decode cX7_findClashes 71 = .ok (.iload_n 2, 1) := by decide +kernel
theorem dX7_findClashes_72 : decode cX7_findClashes 72 = .ok (.iload_n 1, 1) := by decide +kernel
theorem dX7_findClashes_73 : decode cX7_findClashes 73 = .ok (.if_icmp .eq 33, 3) := by decide +kernel
theorem dX7_findClashes_76 : decode cX7_findClashes 76 = .ok (.aload_n 0, 1) := by decide +kernel
theorem dX7_findClashes_77 : decode cX7_findClashes 77 = .ok (.getfield 53, 3) := by decide +kernel
theorem dX7_findClashes_80 : decode cX7_findClashes 80 = .ok (.iload_n 1, 1) := by decide +kernel
theorem dX7_findClashes_81 : decode cX7_findClashes 81 = .ok (.laload, 1) := by decide +kernel
theorem dX7_findClashes_82 : decode cX7_findClashes 82 = .ok (.aload_n 0, 1) := by decide +kernel
theorem dX7_findClashes_83 : decode cX7_findClashes 83 = .ok (.getfield 53, 3) := by decide +kernel
theorem dX7_findClashes_86 : decode cX7_findClashes 86 = .ok (.iload_n 2, 1) := by decide +kernel
theorem dX7_findClashes_87 : decode cX7_findClashes 87 = .ok (.laload, 1) := by decide +kernel
theorem dX7_findClashes_88 : decode cX7_findClashes 88 = .ok (.land, 1) := by decide +kernel
theorem dX7_findClashes_89 : decode cX7_findClashes 89 = .ok (.lconst 0, 1) := by decide +kernel
theorem dX7_findClashes_90 : decode cX7_findClashes 90 = .ok (.lcmp, 1) := by decide +kernel
theorem dX7_findClashes_91 : decode cX7_findClashes 91 = .ok (.ifCond .eq 15, 3) := by decide +kernel
theorem dX7_findClashes_94 : decode cX7_findClashes 94 = .ok (.aload_n 0, 1) := by decide +kernel
theorem dX7_findClashes_95 : decode cX7_findClashes 95 = .ok (.getfield 50, 3) := by decide +kernel
theorem dX7_findClashes_98 : decode cX7_findClashes 98 = .ok (.iload_n 1, 1) := by decide +kernel
theorem dX7_findClashes_99 : decode cX7_findClashes 99 = .ok (.dup2, 1) := by decide +kernel
theorem dX7_findClashes_100 : decode cX7_findClashes 100 = .ok (.iaload, 1) := by decide +kernel
theorem dX7_findClashes_101 : decode cX7_findClashes 101 = .ok (.iconst 1, 1) := by decide +kernel
theorem dX7_findClashes_102 : decode cX7_findClashes 102 = .ok (.iload_n 2, 1) := by decide +kernel
theorem dX7_findClashes_103 : decode cX7_findClashes 103 = .ok (.ishl, 1) := by decide +kernel
theorem dX7_findClashes_104 : decode cX7_findClashes 104 = .ok (.ior, 1) := by decide +kernel
theorem dX7_findClashes_105 : decode cX7_findClashes 105 = .ok (.iastore, 1) := by decide +kernel
theorem dX7_findClashes_106 : decode cX7_findClashes 106 = .ok (.iinc 2 1, 3) := by decide +kernel
theorem dX7_findClashes_109 : decode cX7_findClashes 109 = .ok (.goto (-46), 3) := by decide +kernel
theorem dX7_findClashes_112 : decode cX7_findClashes 112 = .ok (.iinc 1 1, 3) := by decide +kernel
theorem dX7_findClashes_115 : decode cX7_findClashes 115 = .ok (.goto (-74), 3) := by decide +kernel
theorem dX7_findClashes_118 : decode cX7_findClashes 118 = .ok (.iconst 0, 1) := by decide +kernel
theorem dX7_findClashes_119 : decode cX7_findClashes 119 = .ok (.istore_n 1, 1) := by decide +kernel
theorem dX7_findClashes_120 : decode cX7_findClashes 120 = .ok (.iload_n 1, 1) := by decide +kernel
theorem dX7_findClashes_121 : decode cX7_findClashes 121 = .ok (.iconst 1, 1) := by decide +kernel
theorem dX7_findClashes_122 : decode cX7_findClashes 122 = .ok (.aload_n 0, 1) := by decide +kernel
theorem dX7_findClashes_123 : decode cX7_findClashes 123 = .ok (.getfield 22, 3) := by decide +kernel
theorem dX7_findClashes_126 : decode cX7_findClashes 126 = .ok (.ishl, 1) := by decide +kernel
theorem dX7_findClashes_127 : decode cX7_findClashes 127 = .ok (.if_icmp .ge 20, 3) := by decide +kernel
theorem dX7_findClashes_130 : decode cX7_findClashes 130 = .ok (.aload_n 0, 1) := by decide +kernel
theorem dX7_findClashes_131 : decode cX7_findClashes 131 = .ok (.getfield 57, 3) := by decide +kernel
theorem dX7_findClashes_134 : decode cX7_findClashes 134 = .ok (.iload_n 1, 1) := by decide +kernel
theorem dX7_findClashes_135 : decode cX7_findClashes 135 = .ok (.aload_n 0, 1) := by decide +kernel
theorem dX7_findClashes_136 : decode cX7_findClashes 136 = .ok (.iload_n 1, 1) := by decide +kernel
theorem dX7_findClashes_137 : decode cX7_findClashes 137 = .ok (.invokevirtual 81, 3) := by decide +kernel
theorem dX7_findClashes_140 : decode cX7_findClashes 140 = .ok (.bastore, 1) := by decide +kernel
theorem dX7_findClashes_141 : decode cX7_findClashes 141 = .ok (.iinc 1 1, 3) := by decide +kernel
theorem dX7_findClashes_144 : decode cX7_findClashes 144 = .ok (.goto (-24), 3) := by decide +kernel
theorem dX7_findClashes_147 : decode cX7_findClashes 147 = .ok (.return_, 1) := by decide +kernel
theorem dX7_isPeaceful_0 : decode cX7_isPeaceful 0 = .ok (.iconst 0, 1) := by decide +kernel
theorem dX7_isPeaceful_1 : decode cX7_isPeaceful 1 = .ok (.istore_n 2, 1) := by decide +kernel
theorem dX7_isPeaceful_2 : decode cX7_isPeaceful 2 = .ok (.iload_n 2, 1) := by decide +kernel
theorem dX7_isPeaceful_3 : decode cX7_isPeaceful 3 = .ok (.aload_n 0, 1) := by decide +kernel
theorem dX7_isPeaceful_4 : decode cX7_isPeaceful 4 = .ok (.getfield 22, 3) := by decide +kernel
theorem dX7_isPeaceful_7 : decode cX7_isPeaceful 7 = .ok (.if_icmp .ge 31, 3) := by decide +kernel
theorem dX7_isPeaceful_10 : decode cX7_isPeaceful 10 = .ok (.iload_n 1, 1) := by decide +kernel
theorem dX7_isPeaceful_11 : decode cX7_isPeaceful 11 = .ok (.iload_n 2, 1) := by decide +kernel
theorem dX7_isPeaceful_12 : decode cX7_isPeaceful 12 = .ok (.ishr, 1) := by decide +kernel
theorem dX7_isPeaceful_13 : decode cX7_isPeaceful 13 = .ok (.iconst 1, 1) := by decide +kernel
theorem dX7_isPeaceful_14 : decode cX7_isPeaceful 14 = .ok (.iand, 1) := by decide +kernel
theorem dX7_isPeaceful_15 : decode cX7_isPeaceful 15 = .ok (.iconst 1, 1) := by decide +kernel
theorem dX7_isPeaceful_16 : decode cX7_isPeaceful 16 = .ok (.if_icmp .ne 16, 3) := by decide +kernel
theorem dX7_isPeaceful_19 : decode cX7_isPeaceful 19 = .ok (.iload_n 1, 1) := by decide +kernel
theorem dX7_isPeaceful_20 : decode cX7_isPeaceful 20 = .ok (.aload_n 0, 1) := by decide +kernel
theorem dX7_isPeaceful_21 : decode cX7_isPeaceful 21 = .ok (.getfield 50, 3) := by decide +kernel
theorem dX7_isPeaceful_24 : decode cX7_isPeaceful 24 = .ok (.iload_n 2, 1) := by decide +kernel
theorem dX7_isPeaceful_25 : decode cX7_isPeaceful 25 = .ok (.iaload, 1) := by decide +kernel
theorem dX7_isPeaceful_26 : decode cX7_isPeaceful 26 = .ok (.iand, 1) := by decide +kernel
theorem dX7_isPeaceful_27 : decode cX7_isPeaceful 27 = .ok (.ifCond .eq 5, 3) := by decide +kernel
theorem dX7_isPeaceful_30 : decode cX7_isPeaceful 30 = .ok (.iconst 0, 1) := by decide +kernel
theorem dX7_isPeaceful_31 : decode cX7_isPeaceful 31 = .ok (.ireturn, 1) := by decide +kernel
theorem dX7_isPeaceful_32 : decode cX7_isPeaceful 32 = .ok (.iinc 2 1, 3) := by decide +kernel
theorem dX7_isPeaceful_35 : decode cX7_isPeaceful 35 = .ok (.goto (-33), 3) := by decide +kernel
theorem dX7_isPeaceful_38 : decode cX7_isPeaceful 38 = .ok (.iconst 1, 1) := by decide +kernel
theorem dX7_isPeaceful_39 : decode cX7_isPeaceful 39 = .ok (.ireturn, 1) := by decide +kernel
theorem dX7_spanOf_0 : decode cX7_spanOf 0 = .ok (.lconst 0, 1) := by decide +kernel
theorem dX7_spanOf_1 : decode cX7_spanOf 1 = .ok (.lstore_n 2, 1) := by decide +kernel
theorem dX7_spanOf_2 : decode cX7_spanOf 2 = .ok (.iconst 0, 1) := by decide +kernel
theorem dX7_spanOf_3 : decode cX7_spanOf 3 = .ok (.istore 4, 2) := by decide +kernel
theorem dX7_spanOf_5 : decode cX7_spanOf 5 = .ok (.iload 4, 2) := by decide +kernel
theorem dX7_spanOf_7 : decode cX7_spanOf 7 = .ok (.aload_n 0, 1) := by decide +kernel
theorem dX7_spanOf_8 : decode cX7_spanOf 8 = .ok (.getfield 22, 3) := by decide +kernel
theorem dX7_spanOf_11 : decode cX7_spanOf 11 = .ok (.if_icmp .ge 29, 3) := by decide +kernel
theorem dX7_spanOf_14 : decode cX7_spanOf 14 = .ok (.iload_n 1, 1) := by decide +kernel
theorem dX7_spanOf_15 : decode cX7_spanOf 15 = .ok (.iload 4, 2) := by decide +kernel
theorem dX7_spanOf_17 : decode cX7_spanOf 17 = .ok (.ishr, 1) := by decide +kernel
theorem dX7_spanOf_18 : decode cX7_spanOf 18 = .ok (.iconst 1, 1) := by decide +kernel
theorem dX7_spanOf_19 : decode cX7_spanOf 19 = .ok (.iand, 1) := by decide +kernel
theorem dX7_spanOf_20 : decode cX7_spanOf 20 = .ok (.iconst 1, 1) := by decide +kernel
theorem dX7_spanOf_21 : decode cX7_spanOf 21 = .ok (.if_icmp .ne 13, 3) := by decide +kernel
theorem dX7_spanOf_24 : decode cX7_spanOf 24 = .ok (.lload_n 2, 1) := by decide +kernel
theorem dX7_spanOf_25 : decode cX7_spanOf 25 = .ok (.aload_n 0, 1) := by decide +kernel
theorem dX7_spanOf_26 : decode cX7_spanOf 26 = .ok (.getfield 53, 3) := by decide +kernel
theorem dX7_spanOf_29 : decode cX7_spanOf 29 = .ok (.iload 4, 2) := by decide +kernel
theorem dX7_spanOf_31 : decode cX7_spanOf 31 = .ok (.laload, 1) := by decide +kernel
theorem dX7_spanOf_32 : decode cX7_spanOf 32 = .ok (.lor, 1) := by decide +kernel
theorem dX7_spanOf_33 : decode cX7_spanOf 33 = .ok (.lstore_n 2, 1) := by decide +kernel
theorem dX7_spanOf_34 : decode cX7_spanOf 34 = .ok (.iinc 4 1, 3) := by decide +kernel
theorem dX7_spanOf_37 : decode cX7_spanOf 37 = .ok (.goto (-32), 3) := by decide +kernel
theorem dX7_spanOf_40 : decode cX7_spanOf 40 = .ok (.lload_n 2, 1) := by decide +kernel
theorem dX7_spanOf_41 : decode cX7_spanOf 41 = .ok (.lreturn, 1) := by decide +kernel
theorem dX7_hoursOf_0 : decode cX7_hoursOf 0 = .ok (.aload_n 0, 1) := by decide +kernel
theorem dX7_hoursOf_1 : decode cX7_hoursOf 1 = .ok (.iload_n 1, 1) := by decide +kernel
theorem dX7_hoursOf_2 : decode cX7_hoursOf 2 = .ok (.invokevirtual 85, 3) := by decide +kernel
theorem dX7_hoursOf_5 : decode cX7_hoursOf 5 = .ok (.invokestatic 89, 3) := by decide +kernel
theorem dX7_hoursOf_8 : decode cX7_hoursOf 8 = .ok (.ireturn, 1) := by decide +kernel
theorem dX7_isThere_0 : decode cX7_isThere 0 = .ok (.iload_n 2, 1) := by decide +kernel
theorem dX7_isThere_1 : decode cX7_isThere 1 = .ok (.aload_n 0, 1) := by decide +kernel
theorem dX7_isThere_2 : decode cX7_isThere 2 = .ok (.getfield 25, 3) := by decide +kernel
theorem dX7_isThere_5 : decode cX7_isThere 5 = .ok (.iload_n 1, 1) := by decide +kernel
theorem dX7_isThere_6 : decode cX7_isThere 6 = .ok (.iaload, 1) := by decide +kernel
theorem dX7_isThere_7 : decode cX7_isThere 7 = .ok (.if_icmp .lt 24, 3) := by decide +kernel
theorem dX7_isThere_10 : decode cX7_isThere 10 = .ok (.iload_n 2, 1) := by decide +kernel
theorem dX7_isThere_11 : decode cX7_isThere 11 = .ok (.aload_n 0, 1) := by decide +kernel
theorem dX7_isThere_12 : decode cX7_isThere 12 = .ok (.getfield 25, 3) := by decide +kernel
theorem dX7_isThere_15 : decode cX7_isThere 15 = .ok (.iload_n 1, 1) := by decide +kernel
theorem dX7_isThere_16 : decode cX7_isThere 16 = .ok (.iaload, 1) := by decide +kernel
theorem dX7_isThere_17 : decode cX7_isThere 17 = .ok (.aload_n 0, 1) := by decide +kernel
theorem dX7_isThere_18 : decode cX7_isThere 18 = .ok (.getfield 28, 3) := by decide +kernel
theorem dX7_isThere_21 : decode cX7_isThere 21 = .ok (.iload_n 1, 1) := by decide +kernel
theorem dX7_isThere_22 : decode cX7_isThere 22 = .ok (.iaload, 1) := by decide +kernel
theorem dX7_isThere_23 : decode cX7_isThere 23 = .ok (.iadd, 1) := by decide +kernel
theorem dX7_isThere_24 : decode cX7_isThere 24 = .ok (.if_icmp .ge 7, 3) := by decide +kernel
theorem dX7_isThere_27 : decode cX7_isThere 27 = .ok (.iconst 1, 1) := by decide +kernel
theorem dX7_isThere_28 : decode cX7_isThere 28 = .ok (.goto 4, 3) := by decide +kernel
theorem dX7_isThere_31 : decode cX7_isThere 31 = .ok (.iconst 0, 1) := by decide +kernel
theorem dX7_isThere_32 : decode cX7_isThere 32 = .ok (.ireturn, 1) := by decide +kernel
theorem dX7_isLongEnough_0 : decode cX7_isLongEnough 0 = .ok (.aload_n 0, 1) := by decide +kernel
theorem dX7_isLongEnough_1 : decode cX7_isLongEnough 1 = .ok (.getfield 25, 3) := by decide +kernel
theorem dX7_isLongEnough_4 : decode cX7_isLongEnough 4 = .ok (.iload_n 2, 1) := by decide +kernel
theorem dX7_isLongEnough_5 : decode cX7_isLongEnough 5 = .ok (.iaload, 1) := by decide +kernel
theorem dX7_isLongEnough_6 : decode cX7_isLongEnough 6 = .ok (.aload_n 0, 1) := by decide +kernel
theorem dX7_isLongEnough_7 : decode cX7_isLongEnough 7 = .ok (.getfield 28, 3) := by decide +kernel
theorem dX7_isLongEnough_10 : decode cX7_isLongEnough 10 = .ok (.iload_n 2, 1) := by decide +kernel
theorem dX7_isLongEnough_11 : decode cX7_isLongEnough 11 = .ok (.iaload, 1) := by decide +kernel
theorem dX7_isLongEnough_12 : decode cX7_isLongEnough 12 = .ok (.iadd, 1) := by decide +kernel
theorem dX7_isLongEnough_13 : decode cX7_isLongEnough 13 = .ok (.aload_n 0, 1) := by decide +kernel
theorem dX7_isLongEnough_14 : decode cX7_isLongEnough 14 = .ok (.getfield 15, 3) := by decide +kernel
theorem dX7_isLongEnough_17 : decode cX7_isLongEnough 17 = .ok (.iload_n 1, 1) := by decide +kernel
theorem dX7_isLongEnough_18 : decode cX7_isLongEnough 18 = .ok (.iaload, 1) := by decide +kernel
theorem dX7_isLongEnough_19 : decode cX7_isLongEnough 19 = .ok (.if_icmp .gt 7, 3) := by decide +kernel
theorem dX7_isLongEnough_22 : decode cX7_isLongEnough 22 = .ok (.iconst 1, 1) := by decide +kernel
theorem dX7_isLongEnough_23 : decode cX7_isLongEnough 23 = .ok (.goto 4, 3) := by decide +kernel
theorem dX7_isLongEnough_26 : decode cX7_isLongEnough 26 = .ok (.iconst 0, 1) := by decide +kernel
theorem dX7_isLongEnough_27 : decode cX7_isLongEnough 27 = .ok (.ireturn, 1) := by decide +kernel
theorem dX8_init_0 : decode cX8_init 0 = .ok (.aload_n 0, 1) := by decide +kernel
theorem dX8_init_1 : decode cX8_init 1 = .ok (.invokespecial 3, 3) := by decide +kernel
theorem dX8_init_4 : decode cX8_init 4 = .ok (.aload_n 0, 1) := by decide +kernel
theorem dX8_init_5 : decode cX8_init 5 = .ok (.sipush 402, 3) := by decide +kernel
theorem dX8_init_8 : decode cX8_init 8 = .ok (.newarray .int, 2) := by decide +kernel
theorem dX8_init_10 : decode cX8_init 10 = .ok (.putfield 9, 3) := by decide +kernel
theorem dX8_init_13 : decode cX8_init 13 = .ok (.aload_n 0, 1) := by decide +kernel
theorem dX8_init_14 : decode cX8_init 14 = .ok (.sipush 402, 3) := by decide +kernel
theorem dX8_init_17 : decode cX8_init 17 = .ok (.newarray .int, 2) := by decide +kernel
theorem dX8_init_19 : decode cX8_init 19 = .ok (.putfield 15, 3) := by decide +kernel
theorem dX8_init_22 : decode cX8_init 22 = .ok (.aload_n 0, 1) := by decide +kernel
theorem dX8_init_23 : decode cX8_init 23 = .ok (.sipush 402, 3) := by decide +kernel
theorem dX8_init_26 : decode cX8_init 26 = .ok (.newarray .long, 2) := by decide +kernel
theorem dX8_init_28 : decode cX8_init 28 = .ok (.putfield 18, 3) := by decide +kernel
theorem dX8_init_31 : decode cX8_init 31 = .ok (.aload_n 0, 1) := by decide +kernel
theorem dX8_init_32 : decode cX8_init 32 = .ok (.bipush 21, 2) := by decide +kernel
theorem dX8_init_34 : decode cX8_init 34 = .ok (.newarray .long, 2) := by decide +kernel
theorem dX8_init_36 : decode cX8_init 36 = .ok (.putfield 22, 3) := by decide +kernel
theorem dX8_init_39 : decode cX8_init 39 = .ok (.aload_n 0, 1) := by decide +kernel
theorem dX8_init_40 : decode cX8_init 40 = .ok (.iconst 0, 1) := by decide +kernel
theorem dX8_init_41 : decode cX8_init 41 = .ok (.putfield 25, 3) := by decide +kernel
theorem dX8_init_44 : decode cX8_init 44 = .ok (.iconst 0, 1) := by decide +kernel
theorem dX8_init_45 : decode cX8_init 45 = .ok (.istore_n 1, 1) := by decide +kernel
theorem dX8_init_46 : decode cX8_init 46 = .ok (.iconst 0, 1) := by decide +kernel
theorem dX8_init_47 : decode cX8_init 47 = .ok (.istore_n 2, 1) := by decide +kernel
theorem dX8_init_48 : decode cX8_init 48 = .ok (.iload_n 2, 1) := by decide +kernel
theorem dX8_init_49 : decode cX8_init 49 = .ok (.ldc 29, 2) := by decide +kernel
theorem dX8_init_51 : decode cX8_init 51 = .ok (.invokevirtual 31, 3) := by decide +kernel
theorem dX8_init_54 : decode cX8_init 54 = .ok (.if_icmp .ge 56, 3) := by decide +kernel
theorem dX8_init_57 : decode cX8_init 57 = .ok (.iload_n 1, 1) := by decide +kernel
theorem dX8_init_58 : decode cX8_init 58 = .ok (.bipush 21, 2) := by decide +kernel
theorem dX8_init_60 : decode cX8_init 60 = .ok (.if_icmp .ge 50, 3) := by decide +kernel
theorem dX8_init_63 : decode cX8_init 63 = .ok (.ldc 29, 2) := by decide +kernel
theorem dX8_init_65 : decode cX8_init 65 = .ok (.iload_n 2, 1) := by decide +kernel
theorem dX8_init_66 : decode cX8_init 66 = .ok (.invokevirtual 37, 3) := by decide +kernel
theorem dX8_init_69 : decode cX8_init 69 = .ok (.istore_n 3, 1) := by decide +kernel
theorem dX8_init_70 : decode cX8_init 70 = .ok (.iload_n 3, 1) := by decide +kernel
theorem dX8_init_71 : decode cX8_init 71 = .ok (.bipush 32, 2) := by decide +kernel
theorem dX8_init_73 : decode cX8_init 73 = .ok (.if_icmp .ne 9, 3) := by decide +kernel
theorem dX8_init_76 : decode cX8_init 76 = .ok (.iinc 1 1, 3) := by decide +kernel
theorem dX8_init_79 : decode cX8_init 79 = .ok (.goto 25, 3) := by decide +kernel
theorem dX8_init_82 : decode cX8_init 82 = .ok (.aload_n 0, 1) := by decide +kernel
theorem dX8_init_83 : decode cX8_init 83 = .ok (.getfield 22, 3) := by decide +kernel
theorem dX8_init_86 : decode cX8_init 86 = .ok (.iload_n 1, 1) := by decide +kernel
theorem dX8_init_87 : decode cX8_init 87 = .ok (.aload_n 0, 1) := by decide +kernel
theorem dX8_init_88 : decode cX8_init 88 = .ok (.getfield 22, 3) := by decide +kernel
theorem dX8_init_91 : decode cX8_init 91 = .ok (.iload_n 1, 1) := by decide +kernel
theorem dX8_init_92 : decode cX8_init 92 = .ok (.laload, 1) := by decide +kernel
theorem dX8_init_93 : decode cX8_init 93 = .ok (.iconst 5, 1) := by decide +kernel
theorem dX8_init_94 : decode cX8_init 94 = .ok (.lshl, 1) := by decide +kernel
theorem dX8_init_95 : decode cX8_init 95 = .ok (.iload_n 3, 1) := by decide +kernel
theorem dX8_init_96 : decode cX8_init 96 = .ok (.bipush 97, 2) := by decide +kernel
theorem dX8_init_98 : decode cX8_init 98 = .ok (.isub, 1) := by decide +kernel
theorem dX8_init_99 : decode cX8_init 99 = .ok (.iconst 1, 1) := by decide +kernel
theorem dX8_init_100 : decode cX8_init 100 = .ok (.iadd, 1) := by decide +kernel
theorem dX8_init_101 : decode cX8_init 101 = .ok (.i2l, 1) := by decide +kernel
theorem dX8_init_102 : decode cX8_init 102 = .ok (.lor, 1) := by decide +kernel
theorem dX8_init_103 : decode cX8_init 103 = .ok (.lastore, 1) := by decide +kernel
theorem dX8_init_104 : decode cX8_init 104 = .ok (.iinc 2 1, 3) := by decide +kernel
theorem dX8_init_107 : decode cX8_init 107 = .ok (.goto (-59), 3) := by decide +kernel
theorem dX8_init_110 : decode cX8_init 110 = .ok (.return_, 1) := by decide +kernel
theorem dX8_cut_0 : decode cX8_cut 0 = .ok (.aload_n 0, 1) := by decide +kernel
theorem dX8_cut_1 : decode cX8_cut 1 = .ok (.iconst 0, 1) := by decide +kernel
theorem dX8_cut_2 : decode cX8_cut 2 = .ok (.putfield 25, 3) := by decide +kernel
theorem dX8_cut_5 : decode cX8_cut 5 = .ok (.iconst 0, 1) := by decide +kernel
theorem dX8_cut_6 : decode cX8_cut 6 = .ok (.istore_n 2, 1) := by decide +kernel
theorem dX8_cut_7 : decode cX8_cut 7 = .ok (.iconst 0, 1) := by decide +kernel
theorem dX8_cut_8 : decode cX8_cut 8 = .ok (.istore_n 3, 1) := by decide +kernel
theorem dX8_cut_9 : decode cX8_cut 9 = .ok (.iload_n 3, 1) := by decide +kernel
theorem dX8_cut_10 : decode cX8_cut 10 = .ok (.sipush 400, 3) := by decide +kernel
theorem dX8_cut_13 : decode cX8_cut 13 = .ok (.if_icmp .gt 50, 3) := by decide +kernel
theorem dX8_cut_16 : decode cX8_cut 16 = .ok (.aload_n 0, 1) := by decide +kernel
theorem dX8_cut_17 : decode cX8_cut 17 = .ok (.aload_n 1, 1) := by decide +kernel
theorem dX8_cut_18 : decode cX8_cut 18 = .ok (.iload_n 2, 1) := by decide +kernel
theorem dX8_cut_19 : decode cX8_cut 19 = .ok (.invokevirtual 41, 3) := by decide +kernel
theorem dX8_cut_22 : decode cX8_cut 22 = .ok (.istore_n 2, 1) := by decide +kernel
theorem dX8_cut_23 : decode cX8_cut 23 = .ok (.iload_n 2, 1) := by decide +kernel
theorem dX8_cut_24 : decode cX8_cut 24 = .ok (.aload_n 1, 1) := by decide +kernel
theorem dX8_cut_25 : decode cX8_cut 25 = .ok (.getfield 45, 3) := by decide +kernel
theorem dX8_cut_28 : decode cX8_cut 28 = .ok (.if_icmp .lt 6, 3) := by decide +kernel
theorem dX8_cut_31 : decode cX8_cut 31 = .ok (.goto 32, 3) := by decide +kernel
theorem dX8_cut_34 : decode cX8_cut 34 = .ok (.aload_n 0, 1) := by decide +kernel
theorem dX8_cut_35 : decode cX8_cut 35 = .ok (.aload_n 1, 1) := by decide +kernel
theorem dX8_cut_36 : decode cX8_cut 36 = .ok (.iload_n 2, 1) := by decide +kernel
theorem dX8_cut_37 : decode cX8_cut 37 = .ok (.invokevirtual 49, 3) := by decide +kernel
theorem dX8_cut_40 : decode cX8_cut 40 = .ok (.istore_n 2, 1) := by decide +kernel
theorem dX8_cut_41 : decode cX8_cut 41 = .ok (.aload_n 0, 1) := by decide +kernel
theorem dX8_cut_42 : decode cX8_cut 42 = .ok (.getfield 9, 3) := by decide +kernel
theorem dX8_cut_45 : decode cX8_cut 45 = .ok (.aload_n 0, 1) := by decide +kernel
theorem dX8_cut_46 : decode cX8_cut 46 = .ok (.getfield 25, 3) := by decide +kernel
theorem dX8_cut_49 : decode cX8_cut 49 = .ok (.iconst 1, 1) := by decide +kernel
theorem dX8_cut_50 : decode cX8_cut 50 = .ok (.isub, 1) := by decide +kernel
theorem dX8_cut_51 : decode cX8_cut 51 = .ok (.iaload, 1) := by decide +kernel
theorem dX8_cut_52 : decode cX8_cut 52 = .ok (.iconst 1, 1) := by decide +kernel
theorem dX8_cut_53 : decode cX8_cut 53 = .ok (.if_icmp .ne 4, 3) := by decide +kernel
theorem dX8_cut_56 : decode cX8_cut 56 = .ok (.return_, 1) := by decide +kernel
theorem dX8_cut_57 : decode cX8_cut 57 = .ok (.iinc 3 1, 3) := by decide +kernel
theorem dX8_cut_60 : decode cX8_cut 60 = .ok (.goto (-51), 3) := by decide +kernel
theorem dX8_cut_63 : decode cX8_cut 63 = .ok (.aload_n 0, 1) := by decide +kernel
theorem dX8_cut_64 : decode cX8_cut 64 = .ok (.iconst 0, 1) := by decide +kernel
theorem dX8_cut_65 : decode cX8_cut 65 = .ok (.aload_n 1, 1) := by decide +kernel
theorem dX8_cut_66 : decode cX8_cut 66 = .ok (.getfield 45, 3) := by decide +kernel
theorem dX8_cut_69 : decode cX8_cut 69 = .ok (.lconst 0, 1) := by decide +kernel
theorem dX8_cut_70 : decode cX8_cut 70 = .ok (.invokevirtual 52, 3) := by decide +kernel
theorem dX8_cut_73 : decode cX8_cut 73 = .ok (.return_, 1) := by decide +kernel
theorem dX8_behindBlanks_0 : decode cX8_behindBlanks 0 = .ok (.iload_n 2, 1) := by decide +kernel
theorem dX8_behindBlanks_1 : decode cX8_behindBlanks 1 = .ok (.istore_n 3, 1) := by decide +kernel
theorem dX8_behindBlanks_2 : decode cX8_behindBlanks 2 = .ok (.iload_n 3, 1) := by decide +kernel
theorem dX8_behindBlanks_3 : decode cX8_behindBlanks 3 = .ok (.aload_n 1, 1) := by decide +kernel
theorem dX8_behindBlanks_4 : decode cX8_behindBlanks 4 = .ok (.getfield 45, 3) := by decide +kernel
theorem dX8_behindBlanks_7 : decode cX8_behindBlanks 7 = .ok (.if_icmp .ge 21, 3) := by decide +kernel
theorem dX8_behindBlanks_10 : decode cX8_behindBlanks 10 = .ok (.aload_n 1, 1) := by decide +kernel
theorem dX8_behindBlanks_11 : decode cX8_behindBlanks 11 = .ok (.getfield 56, 3) := by decide +kernel
theorem dX8_behindBlanks_14 : decode cX8_behindBlanks 14 = .ok (.iload_n 3, 1) := by decide +kernel
theorem dX8_behindBlanks_15 : decode cX8_behindBlanks 15 = .ok (.baload, 1) := by decide +kernel
theorem dX8_behindBlanks_16 : decode cX8_behindBlanks 16 = .ok (.invokestatic 60, 3) := by decide +kernel
theorem dX8_behindBlanks_19 : decode cX8_behindBlanks 19 = .ok (.ifCond .eq 9, 3) := by decide +kernel
theorem dX8_behindBlanks_22 : decode cX8_behindBlanks 22 = .ok (.iinc 3 1, 3) := by decide +kernel
theorem dX8_behindBlanks_25 : decode cX8_behindBlanks 25 = .ok (.goto (-23), 3) := by decide +kernel
theorem dX8_behindBlanks_28 : decode cX8_behindBlanks 28 = .ok (.iload_n 3, 1) := by decide +kernel
theorem dX8_behindBlanks_29 : decode cX8_behindBlanks 29 = .ok (.ireturn, 1) := by decide +kernel
theorem dX8_cutOne_0 : decode cX8_cutOne 0 = .ok (.aload_n 1, 1) := by decide +kernel
theorem dX8_cutOne_1 : decode cX8_cutOne 1 = .ok (.getfield 56, 3) := by decide +kernel
theorem dX8_cutOne_4 : decode cX8_cutOne 4 = .ok (.iload_n 2, 1) := by decide +kernel
theorem dX8_cutOne_5 : decode cX8_cutOne 5 = .ok (.baload, 1) := by decide +kernel
theorem dX8_cutOne_6 : decode cX8_cutOne 6 = .ok (.istore_n 3, 1) := by decide +kernel
theorem dX8_cutOne_7 : decode cX8_cutOne 7 = .ok (.iload_n 3, 1) := by decide +kernel
theorem dX8_cutOne_8 : decode cX8_cutOne 8 = .ok (.invokestatic 64, 3) := by decide +kernel
theorem dX8_cutOne_11 : decode cX8_cutOne 11 = .ok (.ifCond .eq 10, 3) := by decide +kernel
theorem dX8_cutOne_14 : decode cX8_cutOne 14 = .ok (.aload_n 0, 1) := by decide +kernel
theorem dX8_cutOne_15 : decode cX8_cutOne 15 = .ok (.aload_n 1, 1) := by decide +kernel
theorem dX8_cutOne_16 : decode cX8_cutOne 16 = .ok (.iload_n 2, 1) := by decide +kernel
theorem dX8_cutOne_17 : decode cX8_cutOne 17 = .ok (.invokevirtual 67, 3) := by decide +kernel
theorem dX8_cutOne_20 : decode cX8_cutOne 20 = .ok (.ireturn, 1) := by decide +kernel
theorem dX8_cutOne_21 : decode cX8_cutOne 21 = .ok (.iload_n 3, 1) := by decide +kernel
theorem dX8_cutOne_22 : decode cX8_cutOne 22 = .ok (.invokestatic 70, 3) := by decide +kernel
theorem dX8_cutOne_25 : decode cX8_cutOne 25 = .ok (.ifCond .eq 10, 3) := by decide +kernel
theorem dX8_cutOne_28 : decode cX8_cutOne 28 = .ok (.aload_n 0, 1) := by decide +kernel
theorem dX8_cutOne_29 : decode cX8_cutOne 29 = .ok (.aload_n 1, 1) := by decide +kernel
theorem dX8_cutOne_30 : decode cX8_cutOne 30 = .ok (.iload_n 2, 1) := by decide +kernel
theorem dX8_cutOne_31 : decode cX8_cutOne 31 = .ok (.invokevirtual 73, 3) := by decide +kernel
theorem dX8_cutOne_34 : decode cX8_cutOne 34 = .ok (.ireturn, 1) := by decide +kernel
theorem dX8_cutOne_35 : decode cX8_cutOne 35 = .ok (.iload_n 3, 1) := by decide +kernel
theorem dX8_cutOne_36 : decode cX8_cutOne 36 = .ok (.ifCond .le 13, 3) := by decide +kernel
theorem dX8_cutOne_39 : decode cX8_cutOne 39 = .ok (.ldc 76, 2) := by decide +kernel
theorem dX8_cutOne_41 : decode cX8_cutOne 41 = .ok (.iload_n 3, 1) := by decide +kernel
theorem dX8_cutOne_42 : decode cX8_cutOne 42 = .ok (.i2c, 1) := by decide +kernel
theorem dX8_cutOne_43 : decode cX8_cutOne 43 = .ok (.invokevirtual 78, 3) := by decide +kernel
theorem dX8_cutOne_46 : decode cX8_cutOne 46 = .ok (.goto 4, 3) := by decide +kernel
theorem dX8_cutOne_49 : decode cX8_cutOne 49 = .ok (.iconst (-1), 1) := by decide +kernel
theorem dX8_cutOne_50 : decode cX8_cutOne 50 = .ok (.istore 4, 2) := by decide +kernel
theorem dX8_cutOne_52 : decode cX8_cutOne 52 = .ok (.aload_n 0, 1) := by decide +kernel
theorem dX8_cutOne_53 : decode cX8_cutOne 53 = .ok (.iload 4, 2) := by decide +kernel
theorem dX8_cutOne_55 : decode cX8_cutOne 55 = .ok (.ifCond .ge 7, 3) := by decide +kernel
theorem dX8_cutOne_58 : decode cX8_cutOne 58 = .ok (.iconst 1, 1) := by decide +kernel
theorem dX8_cutOne_59 : decode cX8_cutOne 59 = .ok (.goto 7, 3) := by decide +kernel
theorem dX8_cutOne_62 : decode cX8_cutOne 62 = .ok (.iconst 4, 1) := by decide +kernel
theorem dX8_cutOne_63 : decode cX8_cutOne 63 = .ok (.iload 4, 2) := by decide +kernel
theorem dX8_cutOne_65 : decode cX8_cutOne 65 = .ok (.iadd, 1) := by decide +kernel
theorem dX8_cutOne_66 : decode cX8_cutOne 66 = .ok (.iload_n 2, 1) := by decide +kernel
theorem dX8_cutOne_67 : decode cX8_cutOne 67 = .ok (.lconst 0, 1) := by decide +kernel
theorem dX8_cutOne_68 : decode cX8_cutOne 68 = .ok (.invokevirtual 52, 3) := by decide +kernel
theorem dX8_cutOne_71 : decode cX8_cutOne 71 = .ok (.iload_n 2, 1) := by decide +kernel
theorem dX8_cutOne_72 : decode cX8_cutOne 72 = .ok (.iconst 1, 1) := by decide +kernel
theorem dX8_cutOne_73 : decode cX8_cutOne 73 = .ok (.iadd, 1) := by decide +kernel
theorem dX8_cutOne_74 : decode cX8_cutOne 74 = .ok (.ireturn, 1) := by decide +kernel
theorem dX8_cutLetters_0 : decode cX8_cutLetters 0 = .ok (.iload_n 2, 1) := by decide +kernel
theorem dX8_cutLetters_1 : decode cX8_cutLetters 1 = .ok (.istore_n 3, 1) := by decide +kernel
theorem dX8_cutLetters_2 : decode cX8_cutLetters 2 = .ok (.lconst 0, 1) := by decide +kernel
theorem dX8_cutLetters_3 : decode cX8_cutLetters 3 = .ok (.lstore 4, 2) := by decide +kernel
theorem dX8_cutLetters_5 : decode cX8_cutLetters 5 = .ok (.iload_n 3, 1) := by decide +kernel
theorem dX8_cutLetters_6 : decode cX8_cutLetters 6 = .ok (.aload_n 1, 1) := by decide +kernel
theorem dX8_cutLetters_7 : decode cX8_cutLetters 7 = .ok (.getfield 45, 3) := by decide +kernel
theorem dX8_cutLetters_10 : decode cX8_cutLetters 10 = .ok (.if_icmp .ge 40, 3) := by decide +kernel
theorem dX8_cutLetters_13 : decode cX8_cutLetters 13 = .ok (.aload_n 1, 1) := by decide +kernel
theorem dX8_cutLetters_14 : decode cX8_cutLetters 14 = .ok (.getfield 56, 3) := by decide +kernel
theorem dX8_cutLetters_17 : decode cX8_cutLetters 17 = .ok (.iload_n 3, 1) := by decide +kernel
theorem dX8_cutLetters_18 : decode cX8_cutLetters 18 = .ok (.baload, 1) := by decide +kernel
theorem dX8_cutLetters_19 : decode cX8_cutLetters 19 = .ok (.invokestatic 64, 3) := by decide +kernel
theorem dX8_cutLetters_22 : decode cX8_cutLetters 22 = .ok (.ifCond .eq 28, 3) := by decide +kernel
theorem dX8_cutLetters_25 : decode cX8_cutLetters 25 = .ok (.lload 4, 2) := by decide +kernel
theorem dX8_cutLetters_27 : decode cX8_cutLetters 27 = .ok (.iconst 5, 1) := by decide +kernel
theorem dX8_cutLetters_28 : decode cX8_cutLetters 28 = .ok (.lshl, 1) := by decide +kernel
theorem dX8_cutLetters_29 : decode cX8_cutLetters 29 = .ok (.aload_n 1, 1) := by decide +kernel
theorem dX8_cutLetters_30 : decode cX8_cutLetters 30 = .ok (.getfield 56, 3) := by decide +kernel
theorem dX8_cutLetters_33 : decode cX8_cutLetters 33 = .ok (.iload_n 3, 1) := by decide +kernel
theorem dX8_cutLetters_34 : decode cX8_cutLetters 34 = .ok (.baload, 1) := by decide +kernel
theorem dX8_cutLetters_35 : decode cX8_cutLetters 35 = .ok (.bipush 97, 2) := by decide +kernel
theorem dX8_cutLetters_37 : decode cX8_cutLetters 37 = .ok (.isub, 1) := by decide +kernel
theorem dX8_cutLetters_38 : decode cX8_cutLetters 38 = .ok (.iconst 1, 1) := by decide +kernel
theorem dX8_cutLetters_39 : decode cX8_cutLetters 39 = .ok (.iadd, 1) := by decide +kernel
theorem dX8_cutLetters_40 : decode cX8_cutLetters 40 = .ok (.i2l, 1) := by decide +kernel
theorem dX8_cutLetters_41 : decode cX8_cutLetters 41 = .ok (.lor, 1) := by decide +kernel
theorem dX8_cutLetters_42 : decode cX8_cutLetters 42 = .ok (.lstore 4, 2) := by decide +kernel
theorem dX8_cutLetters_44 : decode cX8_cutLetters 44 = .ok (.iinc 3 1, 3) := by decide +kernel
theorem dX8_cutLetters_47 : decode cX8_cutLetters 47 = .ok (.goto (-42), 3) := by decide +kernel
theorem dX8_cutLetters_50 : decode cX8_cutLetters 50 = .ok (.aload_n 0, 1) := by decide +kernel
theorem dX8_cutLetters_51 : decode cX8_cutLetters 51 = .ok (.iload_n 3, 1) := by decide +kernel
