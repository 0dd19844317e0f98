theorem dX10_then_22 : decode cX10_then 22 = .ok (.if_icmp .le 5, 3) := by decide +kernel
theorem dX10_then_25 : decode cX10_then 25 = .ok (.iconst (-1), 1) := by decide +kernel
theorem dX10_then_26 : decode cX10_then 26 = .ok (.ireturn, 1) := by decide +kernel
theorem dX10_then_27 : decode cX10_then 27 = .ok (.aload_n 0, 1) := by decide +kernel
theorem dX10_then_28 : decode cX10_then 28 = .ok (.getfield 30, 3) := by decide +kernel
theorem dX10_then_31 : decode cX10_then 31 = .ok (.aload_n 0, 1) := by decide +kernel
theorem dX10_then_32 : decode cX10_then 32 = .ok (.getfield 26, 3) := by decide +kernel
theorem dX10_then_35 : decode cX10_then 35 = .ok (.invokevirtual 258, 3) := by decide +kernel
theorem dX10_then_38 : decode cX10_then 38 = .ok (.aload_n 0, 1) := by decide +kernel
theorem dX10_then_39 : decode cX10_then 39 = .ok (.getfield 47, 3) := by decide +kernel
theorem dX10_then_42 : decode cX10_then 42 = .ok (.aload_n 0, 1) := by decide +kernel
theorem dX10_then_43 : decode cX10_then 43 = .ok (.getfield 68, 3) := by decide +kernel
theorem dX10_then_46 : decode cX10_then 46 = .ok (.aload_n 0, 1) := by decide +kernel
theorem dX10_then_47 : decode cX10_then 47 = .ok (.getfield 30, 3) := by decide +kernel
theorem dX10_then_50 : decode cX10_then 50 = .ok (.iload_n 2, 1) := by decide +kernel
theorem dX10_then_51 : decode cX10_then 51 = .ok (.aload_n 0, 1) := by decide +kernel
theorem dX10_then_52 : decode cX10_then 52 = .ok (.getfield 68, 3) := by decide +kernel
theorem dX10_then_55 : decode cX10_then 55 = .ok (.getfield 185, 3) := by decide +kernel
theorem dX10_then_58 : decode cX10_then 58 = .ok (.invokevirtual 188, 3) := by decide +kernel
theorem dX10_then_61 : decode cX10_then 61 = .ok (.iload_n 3, 1) := by decide +kernel
theorem dX10_then_62 : decode cX10_then 62 = .ok (.ifCond .ne 12, 3) := by decide +kernel
theorem dX10_then_65 : decode cX10_then 65 = .ok (.aload_n 0, 1) := by decide +kernel
theorem dX10_then_66 : decode cX10_then 66 = .ok (.getfield 30, 3) := by decide +kernel
theorem dX10_then_69 : decode cX10_then 69 = .ok (.iload_n 1, 1) := by decide +kernel
theorem dX10_then_70 : decode cX10_then 70 = .ok (.invokevirtual 142, 3) := by decide +kernel
theorem dX10_then_73 : decode cX10_then 73 = .ok (.ireturn, 1) := by decide +kernel
theorem dX10_then_74 : decode cX10_then 74 = .ok (.iload_n 3, 1) := by decide +kernel
theorem dX10_then_75 : decode cX10_then 75 = .ok (.iconst 1, 1) := by decide +kernel
theorem dX10_then_76 : decode cX10_then 76 = .ok (.if_icmp .ne 13, 3) := by decide +kernel
theorem dX10_then_79 : decode cX10_then 79 = .ok (.aload_n 0, 1) := by decide +kernel
theorem dX10_then_80 : decode cX10_then 80 = .ok (.getfield 30, 3) := by decide +kernel
theorem dX10_then_83 : decode cX10_then 83 = .ok (.getfield 146, 3) := by decide +kernel
theorem dX10_then_86 : decode cX10_then 86 = .ok (.iload_n 1, 1) := by decide +kernel
theorem dX10_then_87 : decode cX10_then 87 = .ok (.iaload, 1) := by decide +kernel
theorem dX10_then_88 : decode cX10_then 88 = .ok (.ireturn, 1) := by decide +kernel
theorem dX10_then_89 : decode cX10_then 89 = .ok (.aload_n 0, 1) := by decide +kernel
theorem dX10_then_90 : decode cX10_then 90 = .ok (.getfield 30, 3) := by decide +kernel
theorem dX10_then_93 : decode cX10_then 93 = .ok (.iload_n 1, 1) := by decide +kernel
theorem dX10_then_94 : decode cX10_then 94 = .ok (.invokevirtual 149, 3) := by decide +kernel
theorem dX10_then_97 : decode cX10_then 97 = .ok (.ifCond .eq 7, 3) := by decide +kernel
theorem dX10_then_100 : decode cX10_then 100 = .ok (.iconst 1, 1) := by decide +kernel
theorem dX10_then_101 : decode cX10_then 101 = .ok (.goto 4, 3) := by decide +kernel
theorem dX10_then_104 : decode cX10_then 104 = .ok (.iconst 0, 1) := by decide +kernel
theorem dX10_then_105 : decode cX10_then 105 = .ok (.ireturn, 1) := by decide +kernel
theorem dX10_wornIn_0 : decode cX10_wornIn 0 = .ok (.aload_n 0, 1) := by decide +kernel
theorem dX10_wornIn_1 : decode cX10_wornIn 1 = .ok (.iload_n 1, 1) := by decide +kernel
theorem dX10_wornIn_2 : decode cX10_wornIn 2 = .ok (.invokevirtual 107, 3) := by decide +kernel
theorem dX10_wornIn_5 : decode cX10_wornIn 5 = .ok (.ifCond .eq 11, 3) := by decide +kernel
theorem dX10_wornIn_8 : decode cX10_wornIn 8 = .ok (.aload_n 0, 1) := by decide +kernel
theorem dX10_wornIn_9 : decode cX10_wornIn 9 = .ok (.iload_n 2, 1) := by decide +kernel
theorem dX10_wornIn_10 : decode cX10_wornIn 10 = .ok (.invokevirtual 182, 3) := by decide +kernel
theorem dX10_wornIn_13 : decode cX10_wornIn 13 = .ok (.ifCond .ne 5, 3) := by decide +kernel
theorem dX10_wornIn_16 : decode cX10_wornIn 16 = .ok (.iconst (-1), 1) := by decide +kernel
theorem dX10_wornIn_17 : decode cX10_wornIn 17 = .ok (.ireturn, 1) := by decide +kernel
theorem dX10_wornIn_18 : decode cX10_wornIn 18 = .ok (.aload_n 0, 1) := by decide +kernel
theorem dX10_wornIn_19 : decode cX10_wornIn 19 = .ok (.getfield 30, 3) := by decide +kernel
theorem dX10_wornIn_22 : decode cX10_wornIn 22 = .ok (.aload_n 0, 1) := by decide +kernel
theorem dX10_wornIn_23 : decode cX10_wornIn 23 = .ok (.getfield 26, 3) := by decide +kernel
theorem dX10_wornIn_26 : decode cX10_wornIn 26 = .ok (.invokevirtual 258, 3) := by decide +kernel
theorem dX10_wornIn_29 : decode cX10_wornIn 29 = .ok (.aload_n 0, 1) := by decide +kernel
theorem dX10_wornIn_30 : decode cX10_wornIn 30 = .ok (.getfield 47, 3) := by decide +kernel
theorem dX10_wornIn_33 : decode cX10_wornIn 33 = .ok (.aload_n 0, 1) := by decide +kernel
theorem dX10_wornIn_34 : decode cX10_wornIn 34 = .ok (.getfield 68, 3) := by decide +kernel
theorem dX10_wornIn_37 : decode cX10_wornIn 37 = .ok (.aload_n 0, 1) := by decide +kernel
theorem dX10_wornIn_38 : decode cX10_wornIn 38 = .ok (.getfield 30, 3) := by decide +kernel
theorem dX10_wornIn_41 : decode cX10_wornIn 41 = .ok (.iload_n 2, 1) := by decide +kernel
theorem dX10_wornIn_42 : decode cX10_wornIn 42 = .ok (.aload_n 0, 1) := by decide +kernel
theorem dX10_wornIn_43 : decode cX10_wornIn 43 = .ok (.getfield 68, 3) := by decide +kernel
theorem dX10_wornIn_46 : decode cX10_wornIn 46 = .ok (.getfield 185, 3) := by decide +kernel
theorem dX10_wornIn_49 : decode cX10_wornIn 49 = .ok (.invokevirtual 188, 3) := by decide +kernel
theorem dX10_wornIn_52 : decode cX10_wornIn 52 = .ok (.aload_n 0, 1) := by decide +kernel
theorem dX10_wornIn_53 : decode cX10_wornIn 53 = .ok (.getfield 30, 3) := by decide +kernel
theorem dX10_wornIn_56 : decode cX10_wornIn 56 = .ok (.getfield 117, 3) := by decide +kernel
theorem dX10_wornIn_59 : decode cX10_wornIn 59 = .ok (.iload_n 1, 1) := by decide +kernel
theorem dX10_wornIn_60 : decode cX10_wornIn 60 = .ok (.iaload, 1) := by decide +kernel
theorem dX10_wornIn_61 : decode cX10_wornIn 61 = .ok (.ireturn, 1) := by decide +kernel
theorem dX10_year_0 : decode cX10_year 0 = .ok (.aload_n 0, 1) := by decide +kernel
theorem dX10_year_1 : decode cX10_year 1 = .ok (.iload_n 1, 1) := by decide +kernel
theorem dX10_year_2 : decode cX10_year 2 = .ok (.invokevirtual 130, 3) := by decide +kernel
theorem dX10_year_5 : decode cX10_year 5 = .ok (.ifCond .eq 22, 3) := by decide +kernel
theorem dX10_year_8 : decode cX10_year 8 = .ok (.aload_n 0, 1) := by decide +kernel
theorem dX10_year_9 : decode cX10_year 9 = .ok (.iload_n 2, 1) := by decide +kernel
theorem dX10_year_10 : decode cX10_year 10 = .ok (.invokevirtual 182, 3) := by decide +kernel
theorem dX10_year_13 : decode cX10_year 13 = .ok (.ifCond .eq 14, 3) := by decide +kernel
theorem dX10_year_16 : decode cX10_year 16 = .ok (.iload_n 3, 1) := by decide +kernel
theorem dX10_year_17 : decode cX10_year 17 = .ok (.iconst 1, 1) := by decide +kernel
theorem dX10_year_18 : decode cX10_year 18 = .ok (.if_icmp .lt 9, 3) := by decide +kernel
theorem dX10_year_21 : decode cX10_year 21 = .ok (.iload_n 3, 1) := by decide +kernel
theorem dX10_year_22 : decode cX10_year 22 = .ok (.bipush 20, 2) := by decide +kernel
theorem dX10_year_24 : decode cX10_year 24 = .ok (.if_icmp .le 5, 3) := by decide +kernel
theorem dX10_year_27 : decode cX10_year 27 = .ok (.iconst (-1), 1) := by decide +kernel
theorem dX10_year_28 : decode cX10_year 28 = .ok (.ireturn, 1) := by decide +kernel
theorem dX10_year_29 : decode cX10_year 29 = .ok (.iconst 0, 1) := by decide +kernel
theorem dX10_year_30 : decode cX10_year 30 = .ok (.istore 4, 2) := by decide +kernel
theorem dX10_year_32 : decode cX10_year 32 = .ok (.iconst 0, 1) := by decide +kernel
theorem dX10_year_33 : decode cX10_year 33 = .ok (.istore 5, 2) := by decide +kernel
theorem dX10_year_35 : decode cX10_year 35 = .ok (.iload 5, 2) := by decide +kernel
theorem dX10_year_37 : decode cX10_year 37 = .ok (.iload_n 3, 1) := by decide +kernel
theorem dX10_year_38 : decode cX10_year 38 = .ok (.if_icmp .ge 60, 3) := by decide +kernel
theorem dX10_year_41 : decode cX10_year 41 = .ok (.aload_n 0, 1) := by decide +kernel
theorem dX10_year_42 : decode cX10_year 42 = .ok (.getfield 30, 3) := by decide +kernel
theorem dX10_year_45 : decode cX10_year 45 = .ok (.aload_n 0, 1) := by decide +kernel
theorem dX10_year_46 : decode cX10_year 46 = .ok (.getfield 26, 3) := by decide +kernel
theorem dX10_year_49 : decode cX10_year 49 = .ok (.invokevirtual 258, 3) := by decide +kernel
theorem dX10_year_52 : decode cX10_year 52 = .ok (.aload_n 0, 1) := by decide +kernel
theorem dX10_year_53 : decode cX10_year 53 = .ok (.getfield 47, 3) := by decide +kernel
theorem dX10_year_56 : decode cX10_year 56 = .ok (.aload_n 0, 1) := by decide +kernel
theorem dX10_year_57 : decode cX10_year 57 = .ok (.getfield 68, 3) := by decide +kernel
theorem dX10_year_60 : decode cX10_year 60 = .ok (.aload_n 0, 1) := by decide +kernel
theorem dX10_year_61 : decode cX10_year 61 = .ok (.getfield 30, 3) := by decide +kernel
theorem dX10_year_64 : decode cX10_year 64 = .ok (.iload_n 2, 1) := by decide +kernel
theorem dX10_year_65 : decode cX10_year 65 = .ok (.aload_n 0, 1) := by decide +kernel
theorem dX10_year_66 : decode cX10_year 66 = .ok (.getfield 68, 3) := by decide +kernel
theorem dX10_year_69 : decode cX10_year 69 = .ok (.getfield 185, 3) := by decide +kernel
theorem dX10_year_72 : decode cX10_year 72 = .ok (.iload 5, 2) := by decide +kernel
theorem dX10_year_74 : decode cX10_year 74 = .ok (.iadd, 1) := by decide +kernel
theorem dX10_year_75 : decode cX10_year 75 = .ok (.invokevirtual 188, 3) := by decide +kernel
theorem dX10_year_78 : decode cX10_year 78 = .ok (.aload_n 0, 1) := by decide +kernel
theorem dX10_year_79 : decode cX10_year 79 = .ok (.getfield 30, 3) := by decide +kernel
theorem dX10_year_82 : decode cX10_year 82 = .ok (.iload_n 1, 1) := by decide +kernel
theorem dX10_year_83 : decode cX10_year 83 = .ok (.invokevirtual 149, 3) := by decide +kernel
theorem dX10_year_86 : decode cX10_year 86 = .ok (.ifCond .ne 6, 3) := by decide +kernel
theorem dX10_year_89 : decode cX10_year 89 = .ok (.iinc 4 1, 3) := by decide +kernel
theorem dX10_year_92 : decode cX10_year 92 = .ok (.iinc 5 1, 3) := by decide +kernel
theorem dX10_year_95 : decode cX10_year 95 = .ok (.goto (-60), 3) := by decide +kernel
theorem dX10_year_98 : decode cX10_year 98 = .ok (.iload 4, 2) := by decide +kernel
theorem dX10_year_100 : decode cX10_year 100 = .ok (.ireturn, 1) := by decide +kernel
theorem dX10_tell_0 : decode cX10_tell 0 = .ok (.iload_n 1, 1) := by decide +kernel
theorem dX10_tell_1 : decode cX10_tell 1 = .ok (.ifCond .lt 21, 3) := by decide +kernel
theorem dX10_tell_4 : decode cX10_tell 4 = .ok (.iload_n 1, 1) := by decide +kernel
theorem dX10_tell_5 : decode cX10_tell 5 = .ok (.bipush 24, 2) := by decide +kernel
theorem dX10_tell_7 : decode cX10_tell 7 = .ok (.if_icmp .ge 15, 3) := by decide +kernel
theorem dX10_tell_10 : decode cX10_tell 10 = .ok (.aload_n 0, 1) := by decide +kernel
theorem dX10_tell_11 : decode cX10_tell 11 = .ok (.getfield 61, 3) := by decide +kernel
theorem dX10_tell_14 : decode cX10_tell 14 = .ok (.getfield 103, 3) := by decide +kernel
theorem dX10_tell_17 : decode cX10_tell 17 = .ok (.bipush 20, 2) := by decide +kernel
theorem dX10_tell_19 : decode cX10_tell 19 = .ok (.if_icmp .lt 5, 3) := by decide +kernel
theorem dX10_tell_22 : decode cX10_tell 22 = .ok (.iconst (-1), 1) := by decide +kernel
theorem dX10_tell_23 : decode cX10_tell 23 = .ok (.ireturn, 1) := by decide +kernel
theorem dX10_tell_24 : decode cX10_tell 24 = .ok (.aload_n 0, 1) := by decide +kernel
theorem dX10_tell_25 : decode cX10_tell 25 = .ok (.getfield 61, 3) := by decide +kernel
theorem dX10_tell_28 : decode cX10_tell 28 = .ok (.iload_n 1, 1) := by decide +kernel
theorem dX10_tell_29 : decode cX10_tell 29 = .ok (.iload_n 2, 1) := by decide +kernel
theorem dX10_tell_30 : decode cX10_tell 30 = .ok (.invokevirtual 279, 3) := by decide +kernel
theorem dX10_tell_33 : decode cX10_tell 33 = .ok (.ireturn, 1) := by decide +kernel
theorem dX10_forget_0 : decode cX10_forget 0 = .ok (.aload_n 0, 1) := by decide +kernel
theorem dX10_forget_1 : decode cX10_forget 1 = .ok (.getfield 61, 3) := by decide +kernel
theorem dX10_forget_4 : decode cX10_forget 4 = .ok (.getfield 103, 3) := by decide +kernel
theorem dX10_forget_7 : decode cX10_forget 7 = .ok (.istore_n 1, 1) := by decide +kernel
theorem dX10_forget_8 : decode cX10_forget 8 = .ok (.aload_n 0, 1) := by decide +kernel
theorem dX10_forget_9 : decode cX10_forget 9 = .ok (.getfield 61, 3) := by decide +kernel
theorem dX10_forget_12 : decode cX10_forget 12 = .ok (.iconst 0, 1) := by decide +kernel
theorem dX10_forget_13 : decode cX10_forget 13 = .ok (.putfield 103, 3) := by decide +kernel
theorem dX10_forget_16 : decode cX10_forget 16 = .ok (.iload_n 1, 1) := by decide +kernel
theorem dX10_forget_17 : decode cX10_forget 17 = .ok (.ireturn, 1) := by decide +kernel
theorem dX10_whose_0 : decode cX10_whose 0 = .ok (.iload_n 1, 1) := by decide +kernel
theorem dX10_whose_1 : decode cX10_whose 1 = .ok (.ifCond .lt 22, 3) := by decide +kernel
theorem dX10_whose_4 : decode cX10_whose 4 = .ok (.iload_n 1, 1) := by decide +kernel
theorem dX10_whose_5 : decode cX10_whose 5 = .ok (.aload_n 0, 1) := by decide +kernel
theorem dX10_whose_6 : decode cX10_whose 6 = .ok (.getfield 61, 3) := by decide +kernel
theorem dX10_whose_9 : decode cX10_whose 9 = .ok (.getfield 103, 3) := by decide +kernel
theorem dX10_whose_12 : decode cX10_whose 12 = .ok (.if_icmp .gt 11, 3) := by decide +kernel
theorem dX10_whose_15 : decode cX10_whose 15 = .ok (.aload_n 0, 1) := by decide +kernel
theorem dX10_whose_16 : decode cX10_whose 16 = .ok (.iload_n 2, 1) := by decide +kernel
theorem dX10_whose_17 : decode cX10_whose 17 = .ok (.invokevirtual 199, 3) := by decide +kernel
theorem dX10_whose_20 : decode cX10_whose 20 = .ok (.ifCond .ne 5, 3) := by decide +kernel
theorem dX10_whose_23 : decode cX10_whose 23 = .ok (.iconst (-1), 1) := by decide +kernel
theorem dX10_whose_24 : decode cX10_whose 24 = .ok (.ireturn, 1) := by decide +kernel
theorem dX10_whose_25 : decode cX10_whose 25 = .ok (.aload_n 0, 1) := by decide +kernel
theorem dX10_whose_26 : decode cX10_whose 26 = .ok (.getfield 61, 3) := by decide +kernel
theorem dX10_whose_29 : decode cX10_whose 29 = .ok (.aload_n 0, 1) := by decide +kernel
theorem dX10_whose_30 : decode cX10_whose 30 = .ok (.getfield 68, 3) := by decide +kernel
theorem dX10_whose_33 : decode cX10_whose 33 = .ok (.iload_n 1, 1) := by decide +kernel
theorem dX10_whose_34 : decode cX10_whose 34 = .ok (.invokevirtual 283, 3) := by decide +kernel
theorem dX10_whose_37 : decode cX10_whose 37 = .ok (.istore_n 3, 1) := by decide +kernel
theorem dX10_whose_38 : decode cX10_whose 38 = .ok (.iload_n 2, 1) := by decide +kernel
theorem dX10_whose_39 : decode cX10_whose 39 = .ok (.ifCond .ne 10, 3) := by decide +kernel
theorem dX10_whose_42 : decode cX10_whose 42 = .ok (.iload_n 3, 1) := by decide +kernel
theorem dX10_whose_43 : decode cX10_whose 43 = .ok (.invokestatic 243, 3) := by decide +kernel
theorem dX10_whose_46 : decode cX10_whose 46 = .ok (.goto 4, 3) := by decide +kernel
theorem dX10_whose_49 : decode cX10_whose 49 = .ok (.iload_n 3, 1) := by decide +kernel
theorem dX10_whose_50 : decode cX10_whose 50 = .ok (.ireturn, 1) := by decide +kernel
theorem dX10_look_0 : decode cX10_look 0 = .ok (.iload_n 1, 1) := by decide +kernel
theorem dX10_look_1 : decode cX10_look 1 = .ok (.ifCond .lt 14, 3) := by decide +kernel
theorem dX10_look_4 : decode cX10_look 4 = .ok (.iload_n 1, 1) := by decide +kernel
theorem dX10_look_5 : decode cX10_look 5 = .ok (.aload_n 0, 1) := by decide +kernel
theorem dX10_look_6 : decode cX10_look 6 = .ok (.getfield 61, 3) := by decide +kernel
theorem dX10_look_9 : decode cX10_look 9 = .ok (.getfield 103, 3) := by decide +kernel
theorem dX10_look_12 : decode cX10_look 12 = .ok (.if_icmp .le 5, 3) := by decide +kernel
theorem dX10_look_15 : decode cX10_look 15 = .ok (.iconst (-1), 1) := by decide +kernel
theorem dX10_look_16 : decode cX10_look 16 = .ok (.ireturn, 1) := by decide +kernel
theorem dX10_look_17 : decode cX10_look 17 = .ok (.aload_n 0, 1) := by decide +kernel
theorem dX10_look_18 : decode cX10_look 18 = .ok (.getfield 61, 3) := by decide +kernel
theorem dX10_look_21 : decode cX10_look 21 = .ok (.aload_n 0, 1) := by decide +kernel
theorem dX10_look_22 : decode cX10_look 22 = .ok (.getfield 68, 3) := by decide +kernel
theorem dX10_look_25 : decode cX10_look 25 = .ok (.iload_n 1, 1) := by decide +kernel
theorem dX10_look_26 : decode cX10_look 26 = .ok (.invokevirtual 283, 3) := by decide +kernel
theorem dX10_look_29 : decode cX10_look 29 = .ok (.istore_n 2, 1) := by decide +kernel
theorem dX10_look_30 : decode cX10_look 30 = .ok (.iload_n 2, 1) := by decide +kernel
theorem dX10_look_31 : decode cX10_look 31 = .ok (.ifCond .ne 8, 3) := by decide +kernel
theorem dX10_look_34 : decode cX10_look 34 = .ok (.bipush (-2), 2) := by decide +kernel
theorem dX10_look_36 : decode cX10_look 36 = .ok (.goto 15, 3) := by decide +kernel
theorem dX10_look_39 : decode cX10_look 39 = .ok (.aload_n 0, 1) := by decide +kernel
theorem dX10_look_40 : decode cX10_look 40 = .ok (.getfield 61, 3) := by decide +kernel
theorem dX10_look_43 : decode cX10_look 43 = .ok (.aload_n 0, 1) := by decide +kernel
theorem dX10_look_44 : decode cX10_look 44 = .ok (.getfield 68, 3) := by decide +kernel
theorem dX10_look_47 : decode cX10_look 47 = .ok (.iload_n 2, 1) := by decide +kernel
theorem dX10_look_48 : decode cX10_look 48 = .ok (.invokevirtual 286, 3) := by decide +kernel
theorem dX10_look_51 : decode cX10_look 51 = .ok (.ireturn, 1) := by decide +kernel
theorem dX10_hold_0 : decode cX10_hold 0 = .ok (.iload_n 1, 1) := by decide +kernel
theorem dX10_hold_1 : decode cX10_hold 1 = .ok (.ifCond .lt 8, 3) := by decide +kernel
theorem dX10_hold_4 : decode cX10_hold 4 = .ok (.iload_n 1, 1) := by decide +kernel
theorem dX10_hold_5 : decode cX10_hold 5 = .ok (.iconst 3, 1) := by decide +kernel
theorem dX10_hold_6 : decode cX10_hold 6 = .ok (.if_icmp .lt 5, 3) := by decide +kernel
theorem dX10_hold_9 : decode cX10_hold 9 = .ok (.iconst 0, 1) := by decide +kernel
theorem dX10_hold_10 : decode cX10_hold 10 = .ok (.ireturn, 1) := by decide +kernel
theorem dX10_hold_11 : decode cX10_hold 11 = .ok (.aload_n 0, 1) := by decide +kernel
theorem dX10_hold_12 : decode cX10_hold 12 = .ok (.getfield 40, 3) := by decide +kernel
theorem dX10_hold_15 : decode cX10_hold 15 = .ok (.iload_n 1, 1) := by decide +kernel
theorem dX10_hold_16 : decode cX10_hold 16 = .ok (.aaload, 1) := by decide +kernel
theorem dX10_hold_17 : decode cX10_hold 17 = .ok (.aload_n 0, 1) := by decide +kernel
theorem dX10_hold_18 : decode cX10_hold 18 = .ok (.getfield 26, 3) := by decide +kernel
theorem dX10_hold_21 : decode cX10_hold 21 = .ok (.invokevirtual 258, 3) := by decide +kernel
theorem dX10_hold_24 : decode cX10_hold 24 = .ok (.aload_n 0, 1) := by decide +kernel
theorem dX10_hold_25 : decode cX10_hold 25 = .ok (.dup, 1) := by decide +kernel
theorem dX10_hold_26 : decode cX10_hold 26 = .ok (.getfield 75, 3) := by decide +kernel
theorem dX10_hold_29 : decode cX10_hold 29 = .ok (.iconst 1, 1) := by decide +kernel
theorem dX10_hold_30 : decode cX10_hold 30 = .ok (.iload_n 1, 1) := by decide +kernel
theorem dX10_hold_31 : decode cX10_hold 31 = .ok (.ishl, 1) := by decide +kernel
theorem dX10_hold_32 : decode cX10_hold 32 = .ok (.ior, 1) := by decide +kernel
theorem dX10_hold_33 : decode cX10_hold 33 = .ok (.putfield 75, 3) := by decide +kernel
theorem dX10_hold_36 : decode cX10_hold 36 = .ok (.iconst 1, 1) := by decide +kernel
theorem dX10_hold_37 : decode cX10_hold 37 = .ok (.ireturn, 1) := by decide +kernel
theorem dX10_restore_0 : decode cX10_restore 0 = .ok (.iload_n 1, 1) := by decide +kernel
theorem dX10_restore_1 : decode cX10_restore 1 = .ok (.ifCond .lt 19, 3) := by decide +kernel
theorem dX10_restore_4 : decode cX10_restore 4 = .ok (.iload_n 1, 1) := by decide +kernel
theorem dX10_restore_5 : decode cX10_restore 5 = .ok (.iconst 3, 1) := by decide +kernel
theorem dX10_restore_6 : decode cX10_restore 6 = .ok (.if_icmp .ge 14, 3) := by decide +kernel
theorem dX10_restore_9 : decode cX10_restore 9 = .ok (.aload_n 0, 1) := by decide +kernel
theorem dX10_restore_10 : decode cX10_restore 10 = .ok (.getfield 75, 3) := by decide +kernel
theorem dX10_restore_13 : decode cX10_restore 13 = .ok (.iload_n 1, 1) := by decide +kernel
theorem dX10_restore_14 : decode cX10_restore 14 = .ok (.ishr, 1) := by decide +kernel
theorem dX10_restore_15 : decode cX10_restore 15 = .ok (.iconst 1, 1) := by decide +kernel
theorem dX10_restore_16 : decode cX10_restore 16 = .ok (.iand, 1) := by decide +kernel
theorem dX10_restore_17 : decode cX10_restore 17 = .ok (.ifCond .ne 5, 3) := by decide +kernel
theorem dX10_restore_20 : decode cX10_restore 20 = .ok (.iconst 0, 1) := by decide +kernel
theorem dX10_restore_21 : decode cX10_restore 21 = .ok (.ireturn, 1) := by decide +kernel
theorem dX10_restore_22 : decode cX10_restore 22 = .ok (.aload_n 0, 1) := by decide +kernel
theorem dX10_restore_23 : decode cX10_restore 23 = .ok (.getfield 26, 3) := by decide +kernel
theorem dX10_restore_26 : decode cX10_restore 26 = .ok (.aload_n 0, 1) := by decide +kernel
theorem dX10_restore_27 : decode cX10_restore 27 = .ok (.getfield 40, 3) := by decide +kernel
theorem dX10_restore_30 : decode cX10_restore 30 = .ok (.iload_n 1, 1) := by decide +kernel
theorem dX10_restore_31 : decode cX10_restore 31 = .ok (.aaload, 1) := by decide +kernel
theorem dX10_restore_32 : decode cX10_restore 32 = .ok (.invokevirtual 258, 3) := by decide +kernel
theorem dX10_restore_35 : decode cX10_restore 35 = .ok (.aload_n 0, 1) := by decide +kernel
theorem dX10_restore_36 : decode cX10_restore 36 = .ok (.getfield 36, 3) := by decide +kernel
theorem dX10_restore_39 : decode cX10_restore 39 = .ok (.iconst 0, 1) := by decide +kernel
theorem dX10_restore_40 : decode cX10_restore 40 = .ok (.putfield 100, 3) := by decide +kernel
theorem dX10_restore_43 : decode cX10_restore 43 = .ok (.iconst 1, 1) := by decide +kernel
theorem dX10_restore_44 : decode cX10_restore 44 = .ok (.ireturn, 1) := by decide +kernel
theorem dX10_count_0 : decode cX10_count 0 = .ok (.iload_n 1, 1) := by decide +kernel
theorem dX10_count_1 : decode cX10_count 1 = .ok (.tableswitch 233 0 18 #[91, 99, 107, 115, 123, 131, 139, 147, 152, 160, 168, 176, 184, 196, 208, 213, 218, 223, 228], 91) := by decide +kernel
theorem dX10_count_92 : decode cX10_count 92 = .ok (.aload_n 0, 1) := by decide +kernel
theorem dX10_count_93 : decode cX10_count 93 = .ok (.getfield 68, 3) := by decide +kernel
theorem dX10_count_96 : decode cX10_count 96 = .ok (.getfield 214, 3) := by decide +kernel
theorem dX10_count_99 : decode cX10_count 99 = .ok (.ireturn, 1) := by decide +kernel
theorem dX10_count_100 : decode cX10_count 100 = .ok (.aload_n 0, 1) := by decide +kernel
theorem dX10_count_101 : decode cX10_count 101 = .ok (.getfield 68, 3) := by decide +kernel
theorem dX10_count_104 : decode cX10_count 104 = .ok (.getfield 155, 3) := by decide +kernel
theorem dX10_count_107 : decode cX10_count 107 = .ok (.ireturn, 1) := by decide +kernel
theorem dX10_count_108 : decode cX10_count 108 = .ok (.aload_n 0, 1) := by decide +kernel
theorem dX10_count_109 : decode cX10_count 109 = .ok (.getfield 26, 3) := by decide +kernel
theorem dX10_count_112 : decode cX10_count 112 = .ok (.getfield 192, 3) := by decide +kernel
theorem dX10_count_115 : decode cX10_count 115 = .ok (.ireturn, 1) := by decide +kernel
theorem dX10_count_116 : decode cX10_count 116 = .ok (.aload_n 0, 1) := by decide +kernel
theorem dX10_count_117 : decode cX10_count 117 = .ok (.getfield 26, 3) := by decide +kernel
theorem dX10_count_120 : decode cX10_count 120 = .ok (.getfield 179, 3) := by decide +kernel
theorem dX10_count_123 : decode cX10_count 123 = .ok (.ireturn, 1) := by decide +kernel
theorem dX10_count_124 : decode cX10_count 124 = .ok (.aload_n 0, 1) := by decide +kernel
theorem dX10_count_125 : decode cX10_count 125 = .ok (.getfield 26, 3) := by decide +kernel
theorem dX10_count_128 : decode cX10_count 128 = .ok (.invokevirtual 289, 3) := by decide +kernel
theorem dX10_count_131 : decode cX10_count 131 = .ok (.ireturn, 1) := by decide +kernel
theorem dX10_count_132 : decode cX10_count 132 = .ok (.aload_n 0, 1) := by decide +kernel
theorem dX10_count_133 : decode cX10_count 133 = .ok (.getfield 26, 3) := by decide +kernel
theorem dX10_count_136 : decode cX10_count 136 = .ok (.getfield 292, 3) := by decide +kernel
theorem dX10_count_139 : decode cX10_count 139 = .ok (.ireturn, 1) := by decide +kernel
theorem dX10_count_140 : decode cX10_count 140 = .ok (.aload_n 0, 1) := by decide +kernel
theorem dX10_count_141 : decode cX10_count 141 = .ok (.getfield 26, 3) := by decide +kernel
theorem dX10_count_144 : decode cX10_count 144 = .ok (.getfield 176, 3) := by decide +kernel
theorem dX10_count_147 : decode cX10_count 147 = .ok (.ireturn, 1) := by decide +kernel
theorem dX10_count_148 : decode cX10_count 148 = .ok (.aload_n 0, 1) := by decide +kernel
theorem dX10_count_149 : decode cX10_count 149 = .ok (.invokevirtual 295, 3) := by decide +kernel
theorem dX10_count_152 : decode cX10_count 152 = .ok (.ireturn, 1) := by decide +kernel
theorem dX10_count_153 : decode cX10_count 153 = .ok (.aload_n 0, 1) := by decide +kernel
theorem dX10_count_154 : decode cX10_count 154 = .ok (.getfield 12, 3) := by decide +kernel
theorem dX10_count_157 : decode cX10_count 157 = .ok (.getfield 87, 3) := by decide +kernel
theorem dX10_count_160 : decode cX10_count 160 = .ok (.ireturn, 1) := by decide +kernel
theorem dX10_count_161 : decode cX10_count 161 = .ok (.aload_n 0, 1) := by decide +kernel
theorem dX10_count_162 : decode cX10_count 162 = .ok (.getfield 36, 3) := by decide +kernel
theorem dX10_count_165 : decode cX10_count 165 = .ok (.getfield 100, 3) := by decide +kernel
theorem dX10_count_168 : decode cX10_count 168 = .ok (.ireturn, 1) := by decide +kernel
theorem dX10_count_169 : decode cX10_count 169 = .ok (.aload_n 0, 1) := by decide +kernel
theorem dX10_count_170 : decode cX10_count 170 = .ok (.getfield 61, 3) := by decide +kernel
theorem dX10_count_173 : decode cX10_count 173 = .ok (.getfield 103, 3) := by decide +kernel
theorem dX10_count_176 : decode cX10_count 176 = .ok (.ireturn, 1) := by decide +kernel
theorem dX10_count_177 : decode cX10_count 177 = .ok (.aload_n 0, 1) := by decide +kernel
theorem dX10_count_178 : decode cX10_count 178 = .ok (.getfield 75, 3) := by decide +kernel
theorem dX10_count_181 : decode cX10_count 181 = .ok (.invokestatic 243, 3) := by decide +kernel
theorem dX10_count_184 : decode cX10_count 184 = .ok (.ireturn, 1) := by decide +kernel
theorem dX10_count_185 : decode cX10_count 185 = .ok (.aload_n 0, 1) := by decide +kernel
theorem dX10_count_186 : decode cX10_count 186 = .ok (.aload_n 0, 1) := by decide +kernel
theorem dX10_count_187 : decode cX10_count 187 = .ok (.getfield 26, 3) := by decide +kernel
theorem dX10_count_190 : decode cX10_count 190 = .ok (.getfield 117, 3) := by decide +kernel
theorem dX10_count_193 : decode cX10_count 193 = .ok (.invokevirtual 298, 3) := by decide +kernel
theorem dX10_count_196 : decode cX10_count 196 = .ok (.ireturn, 1) := by decide +kernel
theorem dX10_count_197 : decode cX10_count 197 = .ok (.aload_n 0, 1) := by decide +kernel
theorem dX10_count_198 : decode cX10_count 198 = .ok (.aload_n 0, 1) := by decide +kernel
theorem dX10_count_199 : decode cX10_count 199 = .ok (.getfield 26, 3) := by decide +kernel
theorem dX10_count_202 : decode cX10_count 202 = .ok (.getfield 146, 3) := by decide +kernel
theorem dX10_count_205 : decode cX10_count 205 = .ok (.invokevirtual 298, 3) := by decide +kernel
theorem dX10_count_208 : decode cX10_count 208 = .ok (.ireturn, 1) := by decide +kernel
theorem dX10_count_209 : decode cX10_count 209 = .ok (.aload_n 0, 1) := by decide +kernel
theorem dX10_count_210 : decode cX10_count 210 = .ok (.invokevirtual 302, 3) := by decide +kernel
theorem dX10_count_213 : decode cX10_count 213 = .ok (.ireturn, 1) := by decide +kernel
theorem dX10_count_214 : decode cX10_count 214 = .ok (.aload_n 0, 1) := by decide +kernel
theorem dX10_count_215 : decode cX10_count 215 = .ok (.invokevirtual 305, 3) := by decide +kernel
theorem dX10_count_218 : decode cX10_count 218 = .ok (.ireturn, 1) := by decide +kernel
theorem dX10_count_219 : decode cX10_count 219 = .ok (.aload_n 0, 1) := by decide +kernel
theorem dX10_count_220 : decode cX10_count 220 = .ok (.invokevirtual 308, 3) := by decide +kernel
theorem dX10_count_223 : decode cX10_count 223 = .ok (.ireturn, 1) := by decide +kernel
theorem dX10_count_224 : decode cX10_count 224 = .ok (.aload_n 0, 1) := by decide +kernel
theorem dX10_count_225 : decode cX10_count 225 = .ok (.invokevirtual 311, 3) := by decide +kernel
theorem dX10_count_228 : decode cX10_count 228 = .ok (.ireturn, 1) := by decide +kernel
theorem dX10_count_229 : decode cX10_count 229 = .ok (.aload_n 0, 1) := by decide +kernel
theorem dX10_count_230 : decode cX10_count 230 = .ok (.invokevirtual 314, 3) := by decide +kernel
theorem dX10_count_233 : decode cX10_count 233 = .ok (.ireturn, 1) := by decide +kernel
theorem dX10_count_234 : decode cX10_count 234 = .ok (.iconst (-1), 1) := by decide +kernel
theorem dX10_count_235 : decode cX10_count 235 = .ok (.ireturn, 1) := by decide +kernel
theorem dX10_isSunday_0 : decode cX10_isSunday 0 = .ok (.iload_n 1, 1) := by decide +kernel
theorem dX10_isSunday_1 : decode cX10_isSunday 1 = .ok (.ifCond .lt 18, 3) := by decide +kernel
theorem dX10_isSunday_4 : decode cX10_isSunday 4 = .ok (.iload_n 1, 1) := by decide +kernel
theorem dX10_isSunday_5 : decode cX10_isSunday 5 = .ok (.aload_n 0, 1) := by decide +kernel
theorem dX10_isSunday_6 : decode cX10_isSunday 6 = .ok (.getfield 68, 3) := by decide +kernel
theorem dX10_isSunday_9 : decode cX10_isSunday 9 = .ok (.getfield 214, 3) := by decide +kernel
theorem dX10_isSunday_12 : decode cX10_isSunday 12 = .ok (.if_icmp .ge 7, 3) := by decide +kernel
theorem dX10_isSunday_15 : decode cX10_isSunday 15 = .ok (.iconst 1, 1) := by decide +kernel
theorem dX10_isSunday_16 : decode cX10_isSunday 16 = .ok (.goto 4, 3) := by decide +kernel
theorem dX10_isSunday_19 : decode cX10_isSunday 19 = .ok (.iconst 0, 1) := by decide +kernel
theorem dX10_isSunday_20 : decode cX10_isSunday 20 = .ok (.ireturn, 1) := by decide +kernel
theorem dX10_isGuest_0 : decode cX10_isGuest 0 = .ok (.iload_n 1, 1) := by decide +kernel
theorem dX10_isGuest_1 : decode cX10_isGuest 1 = .ok (.ifCond .lt 18, 3) := by decide +kernel
theorem dX10_isGuest_4 : decode cX10_isGuest 4 = .ok (.iload_n 1, 1) := by decide +kernel
theorem dX10_isGuest_5 : decode cX10_isGuest 5 = .ok (.aload_n 0, 1) := by decide +kernel
theorem dX10_isGuest_6 : decode cX10_isGuest 6 = .ok (.getfield 68, 3) := by decide +kernel
theorem dX10_isGuest_9 : decode cX10_isGuest 9 = .ok (.getfield 155, 3) := by decide +kernel
theorem dX10_isGuest_12 : decode cX10_isGuest 12 = .ok (.if_icmp .ge 7, 3) := by decide +kernel
theorem dX10_isGuest_15 : decode cX10_isGuest 15 = .ok (.iconst 1, 1) := by decide +kernel
theorem dX10_isGuest_16 : decode cX10_isGuest 16 = .ok (.goto 4, 3) := by decide +kernel
theorem dX10_isGuest_19 : decode cX10_isGuest 19 = .ok (.iconst 0, 1) := by decide +kernel
theorem dX10_isGuest_20 : decode cX10_isGuest 20 = .ok (.ireturn, 1) := by decide +kernel
theorem dX10_isWeeks_0 : decode cX10_isWeeks 0 = .ok (.iload_n 1, 1) := by decide +kernel
theorem dX10_isWeeks_1 : decode cX10_isWeeks 1 = .ok (.ifCond .lt 13, 3) := by decide +kernel
theorem dX10_isWeeks_4 : decode cX10_isWeeks 4 = .ok (.iload_n 1, 1) := by decide +kernel
theorem dX10_isWeeks_5 : decode cX10_isWeeks 5 = .ok (.bipush 40, 2) := by decide +kernel
theorem dX10_isWeeks_7 : decode cX10_isWeeks 7 = .ok (.if_icmp .gt 7, 3) := by decide +kernel
theorem dX10_isWeeks_10 : decode cX10_isWeeks 10 = .ok (.iconst 1, 1) := by decide +kernel
theorem dX10_isWeeks_11 : decode cX10_isWeeks 11 = .ok (.goto 4, 3) := by decide +kernel
theorem dX10_isWeeks_14 : decode cX10_isWeeks 14 = .ok (.iconst 0, 1) := by decide +kernel
theorem dX10_isWeeks_15 : decode cX10_isWeeks 15 = .ok (.ireturn, 1) := by decide +kernel
theorem dX10_isOneOfTwo_0 : decode cX10_isOneOfTwo 0 = .ok (.iload_n 1, 1) := by decide +kernel
theorem dX10_isOneOfTwo_1 : decode cX10_isOneOfTwo 1 = .ok (.ifCond .eq 8, 3) := by decide +kernel
theorem dX10_isOneOfTwo_4 : decode cX10_isOneOfTwo 4 = .ok (.iload_n 1, 1) := by decide +kernel
theorem dX10_isOneOfTwo_5 : decode cX10_isOneOfTwo 5 = .ok (.iconst 1, 1) := by decide +kernel
theorem dX10_isOneOfTwo_6 : decode cX10_isOneOfTwo 6 = .ok (.if_icmp .ne 7, 3) := by decide +kernel
theorem dX10_isOneOfTwo_9 : decode cX10_isOneOfTwo 9 = .ok (.iconst 1, 1) := by decide +kernel
theorem dX10_isOneOfTwo_10 : decode cX10_isOneOfTwo 10 = .ok (.goto 4, 3) := by decide +kernel
theorem dX10_isOneOfTwo_13 : decode cX10_isOneOfTwo 13 = .ok (.iconst 0, 1) := by decide +kernel
theorem dX10_isOneOfTwo_14 : decode cX10_isOneOfTwo 14 = .ok (.ireturn, 1) := by decide +kernel
theorem dX10_couldGoIn_0 : decode cX10_couldGoIn 0 = .ok (.aload_n 0, 1) := by decide +kernel
theorem dX10_couldGoIn_1 : decode cX10_couldGoIn 1 = .ok (.getfield 26, 3) := by decide +kernel
theorem dX10_couldGoIn_4 : decode cX10_couldGoIn 4 = .ok (.iload_n 1, 1) := by decide +kernel
theorem dX10_couldGoIn_5 : decode cX10_couldGoIn 5 = .ok (.invokevirtual 149, 3) := by decide +kernel
theorem dX10_couldGoIn_8 : decode cX10_couldGoIn 8 = .ok (.ifCond .ne 56, 3) := by decide +kernel
theorem dX10_couldGoIn_11 : decode cX10_couldGoIn 11 = .ok (.aload_n 0, 1) := by decide +kernel
theorem dX10_couldGoIn_12 : decode cX10_couldGoIn 12 = .ok (.getfield 26, 3) := by decide +kernel
theorem dX10_couldGoIn_15 : decode cX10_couldGoIn 15 = .ok (.iload_n 2, 1) := by decide +kernel
theorem dX10_couldGoIn_16 : decode cX10_couldGoIn 16 = .ok (.invokevirtual 120, 3) := by decide +kernel
theorem dX10_couldGoIn_19 : decode cX10_couldGoIn 19 = .ok (.ifCond .ne 45, 3) := by decide +kernel
theorem dX10_couldGoIn_22 : decode cX10_couldGoIn 22 = .ok (.aload_n 0, 1) := by decide +kernel
theorem dX10_couldGoIn_23 : decode cX10_couldGoIn 23 = .ok (.getfield 68, 3) := by decide +kernel
theorem dX10_couldGoIn_26 : decode cX10_couldGoIn 26 = .ok (.iload_n 2, 1) := by decide +kernel
theorem dX10_couldGoIn_27 : decode cX10_couldGoIn 27 = .ok (.iload_n 1, 1) := by decide +kernel
theorem dX10_couldGoIn_28 : decode cX10_couldGoIn 28 = .ok (.invokevirtual 317, 3) := by decide +kernel
theorem dX10_couldGoIn_31 : decode cX10_couldGoIn 31 = .ok (.ifCond .eq 33, 3) := by decide +kernel
theorem dX10_couldGoIn_34 : decode cX10_couldGoIn 34 = .ok (.aload_n 0, 1) := by decide +kernel
theorem dX10_couldGoIn_35 : decode cX10_couldGoIn 35 = .ok (.getfield 68, 3) := by decide +kernel
theorem dX10_couldGoIn_38 : decode cX10_couldGoIn 38 = .ok (.getfield 276, 3) := by decide +kernel
theorem dX10_couldGoIn_41 : decode cX10_couldGoIn 41 = .ok (.iload_n 1, 1) := by decide +kernel
theorem dX10_couldGoIn_42 : decode cX10_couldGoIn 42 = .ok (.iaload, 1) := by decide +kernel
theorem dX10_couldGoIn_43 : decode cX10_couldGoIn 43 = .ok (.aload_n 0, 1) := by decide +kernel
theorem dX10_couldGoIn_44 : decode cX10_couldGoIn 44 = .ok (.getfield 26, 3) := by decide +kernel
theorem dX10_couldGoIn_47 : decode cX10_couldGoIn 47 = .ok (.getfield 123, 3) := by decide +kernel
theorem dX10_couldGoIn_50 : decode cX10_couldGoIn 50 = .ok (.iload_n 2, 1) := by decide +kernel
theorem dX10_couldGoIn_51 : decode cX10_couldGoIn 51 = .ok (.iaload, 1) := by decide +kernel
theorem dX10_couldGoIn_52 : decode cX10_couldGoIn 52 = .ok (.iand, 1) := by decide +kernel
theorem dX10_couldGoIn_53 : decode cX10_couldGoIn 53 = .ok (.iload_n 3, 1) := by decide +kernel
theorem dX10_couldGoIn_54 : decode cX10_couldGoIn 54 = .ok (.iconst (-1), 1) := by decide +kernel
theorem dX10_couldGoIn_55 : decode cX10_couldGoIn 55 = .ok (.ixor, 1) := by decide +kernel
theorem dX10_couldGoIn_56 : decode cX10_couldGoIn 56 = .ok (.iand, 1) := by decide +kernel
theorem dX10_couldGoIn_57 : decode cX10_couldGoIn 57 = .ok (.ifCond .ne 7, 3) := by decide +kernel
theorem dX10_couldGoIn_60 : decode cX10_couldGoIn 60 = .ok (.iconst 1, 1) := by decide +kernel
theorem dX10_couldGoIn_61 : decode cX10_couldGoIn 61 = .ok (.goto 4, 3) := by decide +kernel
theorem dX10_couldGoIn_64 : decode cX10_couldGoIn 64 = .ok (.iconst 0, 1) := by decide +kernel
theorem dX10_couldGoIn_65 : decode cX10_couldGoIn 65 = .ok (.ireturn, 1) := by decide +kernel
theorem dX10_sundaysFitting_0 : decode cX10_sundaysFitting 0 = .ok (.iconst 0, 1) := by decide +kernel
theorem dX10_sundaysFitting_1 : decode cX10_sundaysFitting 1 = .ok (.istore_n 2, 1) := by decide +kernel
theorem dX10_sundaysFitting_2 : decode cX10_sundaysFitting 2 = .ok (.iconst 0, 1) := by decide +kernel
theorem dX10_sundaysFitting_3 : decode cX10_sundaysFitting 3 = .ok (.istore_n 3, 1) := by decide +kernel
theorem dX10_sundaysFitting_4 : decode cX10_sundaysFitting 4 = .ok (.iload_n 3, 1) := by decide +kernel
theorem dX10_sundaysFitting_5 : decode cX10_sundaysFitting 5 = .ok (.aload_n 0, 1) := by decide +kernel
theorem dX10_sundaysFitting_6 : decode cX10_sundaysFitting 6 = .ok (.getfield 68, 3) := by decide +kernel
theorem dX10_sundaysFitting_9 : decode cX10_sundaysFitting 9 = .ok (.getfield 214, 3) := by decide +kernel
theorem dX10_sundaysFitting_12 : decode cX10_sundaysFitting 12 = .ok (.if_icmp .ge 38, 3) := by decide +kernel
theorem dX10_sundaysFitting_15 : decode cX10_sundaysFitting 15 = .ok (.aload_n 0, 1) := by decide +kernel
theorem dX10_sundaysFitting_16 : decode cX10_sundaysFitting 16 = .ok (.getfield 26, 3) := by decide +kernel
theorem dX10_sundaysFitting_19 : decode cX10_sundaysFitting 19 = .ok (.iload_n 3, 1) := by decide +kernel
theorem dX10_sundaysFitting_20 : decode cX10_sundaysFitting 20 = .ok (.invokevirtual 120, 3) := by decide +kernel
theorem dX10_sundaysFitting_23 : decode cX10_sundaysFitting 23 = .ok (.ifCond .ne 21, 3) := by decide +kernel
theorem dX10_sundaysFitting_26 : decode cX10_sundaysFitting 26 = .ok (.aload_n 0, 1) := by decide +kernel
theorem dX10_sundaysFitting_27 : decode cX10_sundaysFitting 27 = .ok (.getfield 68, 3) := by decide +kernel
theorem dX10_sundaysFitting_30 : decode cX10_sundaysFitting 30 = .ok (.iload_n 3, 1) := by decide +kernel
theorem dX10_sundaysFitting_31 : decode cX10_sundaysFitting 31 = .ok (.iload_n 1, 1) := by decide +kernel
theorem dX10_sundaysFitting_32 : decode cX10_sundaysFitting 32 = .ok (.invokevirtual 317, 3) := by decide +kernel
theorem dX10_sundaysFitting_35 : decode cX10_sundaysFitting 35 = .ok (.ifCond .eq 9, 3) := by decide +kernel
theorem dX10_sundaysFitting_38 : decode cX10_sundaysFitting 38 = .ok (.iload_n 2, 1) := by decide +kernel
theorem dX10_sundaysFitting_39 : decode cX10_sundaysFitting 39 = .ok (.iconst 1, 1) := by decide +kernel
theorem dX10_sundaysFitting_40 : decode cX10_sundaysFitting 40 = .ok (.iload_n 3, 1) := by decide +kernel
theorem dX10_sundaysFitting_41 : decode cX10_sundaysFitting 41 = .ok (.ishl, 1) := by decide +kernel
theorem dX10_sundaysFitting_42 : decode cX10_sundaysFitting 42 = .ok (.ior, 1) := by decide +kernel
theorem dX10_sundaysFitting_43 : decode cX10_sundaysFitting 43 = .ok (.istore_n 2, 1) := by decide +kernel
theorem dX10_sundaysFitting_44 : decode cX10_sundaysFitting 44 = .ok (.iinc 3 1, 3) := by decide +kernel
theorem dX10_sundaysFitting_47 : decode cX10_sundaysFitting 47 = .ok (.goto (-43), 3) := by decide +kernel
theorem dX10_sundaysFitting_50 : decode cX10_sundaysFitting 50 = .ok (.iload_n 2, 1) := by decide +kernel
theorem dX10_sundaysFitting_51 : decode cX10_sundaysFitting 51 = .ok (.ireturn, 1) := by decide +kernel
theorem dX10_earlierOnes_0 : decode cX10_earlierOnes 0 = .ok (.iconst 0, 1) := by decide +kernel
theorem dX10_earlierOnes_1 : decode cX10_earlierOnes 1 = .ok (.istore_n 3, 1) := by decide +kernel
theorem dX10_earlierOnes_2 : decode cX10_earlierOnes 2 = .ok (.iconst 0, 1) := by decide +kernel
theorem dX10_earlierOnes_3 : decode cX10_earlierOnes 3 = .ok (.istore 4, 2) := by decide +kernel
theorem dX10_earlierOnes_5 : decode cX10_earlierOnes 5 = .ok (.iload 4, 2) := by decide +kernel
theorem dX10_earlierOnes_7 : decode cX10_earlierOnes 7 = .ok (.aload_n 0, 1) := by decide +kernel
theorem dX10_earlierOnes_8 : decode cX10_earlierOnes 8 = .ok (.getfield 68, 3) := by decide +kernel
theorem dX10_earlierOnes_11 : decode cX10_earlierOnes 11 = .ok (.getfield 155, 3) := by decide +kernel
theorem dX10_earlierOnes_14 : decode cX10_earlierOnes 14 = .ok (.if_icmp .ge 47, 3) := by decide +kernel
theorem dX10_earlierOnes_17 : decode cX10_earlierOnes 17 = .ok (.aload_n 0, 1) := by decide +kernel
theorem dX10_earlierOnes_18 : decode cX10_earlierOnes 18 = .ok (.getfield 26, 3) := by decide +kernel
theorem dX10_earlierOnes_21 : decode cX10_earlierOnes 21 = .ok (.iload 4, 2) := by decide +kernel
theorem dX10_earlierOnes_23 : decode cX10_earlierOnes 23 = .ok (.iload_n 2, 1) := by decide +kernel
theorem dX10_earlierOnes_24 : decode cX10_earlierOnes 24 = .ok (.invokevirtual 158, 3) := by decide +kernel
theorem dX10_earlierOnes_27 : decode cX10_earlierOnes 27 = .ok (.ifCond .eq 28, 3) := by decide +kernel
theorem dX10_earlierOnes_30 : decode cX10_earlierOnes 30 = .ok (.aload_n 0, 1) := by decide +kernel
theorem dX10_earlierOnes_31 : decode cX10_earlierOnes 31 = .ok (.getfield 68, 3) := by decide +kernel
theorem dX10_earlierOnes_34 : decode cX10_earlierOnes 34 = .ok (.getfield 133, 3) := by decide +kernel
theorem dX10_earlierOnes_37 : decode cX10_earlierOnes 37 = .ok (.iload 4, 2) := by decide +kernel
theorem dX10_earlierOnes_39 : decode cX10_earlierOnes 39 = .ok (.iaload, 1) := by decide +kernel
theorem dX10_earlierOnes_40 : decode cX10_earlierOnes 40 = .ok (.aload_n 0, 1) := by decide +kernel
theorem dX10_earlierOnes_41 : decode cX10_earlierOnes 41 = .ok (.getfield 68, 3) := by decide +kernel
theorem dX10_earlierOnes_44 : decode cX10_earlierOnes 44 = .ok (.getfield 133, 3) := by decide +kernel
theorem dX10_earlierOnes_47 : decode cX10_earlierOnes 47 = .ok (.iload_n 1, 1) := by decide +kernel
theorem dX10_earlierOnes_48 : decode cX10_earlierOnes 48 = .ok (.iaload, 1) := by decide +kernel
theorem dX10_earlierOnes_49 : decode cX10_earlierOnes 49 = .ok (.if_icmp .ge 6, 3) := by decide +kernel
theorem dX10_earlierOnes_52 : decode cX10_earlierOnes 52 = .ok (.iinc 3 1, 3) := by decide +kernel
theorem dX10_earlierOnes_55 : decode cX10_earlierOnes 55 = .ok (.iinc 4 1, 3) := by decide +kernel
theorem dX10_earlierOnes_58 : decode cX10_earlierOnes 58 = .ok (.goto (-53), 3) := by decide +kernel
theorem dX10_earlierOnes_61 : decode cX10_earlierOnes 61 = .ok (.iload_n 3, 1) := by decide +kernel
theorem dX10_earlierOnes_62 : decode cX10_earlierOnes 62 = .ok (.ireturn, 1) := by decide +kernel
theorem dX10_firstWeary_0 : decode cX10_firstWeary 0 = .ok (.iconst 0, 1) := by decide +kernel
theorem dX10_firstWeary_1 : decode cX10_firstWeary 1 = .ok (.istore_n 1, 1) := by decide +kernel
theorem dX10_firstWeary_2 : decode cX10_firstWeary 2 = .ok (.iload_n 1, 1) := by decide +kernel
theorem dX10_firstWeary_3 : decode cX10_firstWeary 3 = .ok (.aload_n 0, 1) := by decide +kernel
theorem dX10_firstWeary_4 : decode cX10_firstWeary 4 = .ok (.getfield 68, 3) := by decide +kernel
theorem dX10_firstWeary_7 : decode cX10_firstWeary 7 = .ok (.getfield 155, 3) := by decide +kernel
theorem dX10_firstWeary_10 : decode cX10_firstWeary 10 = .ok (.if_icmp .ge 41, 3) := by decide +kernel
theorem dX10_firstWeary_13 : decode cX10_firstWeary 13 = .ok (.aload_n 0, 1) := by decide +kernel
theorem dX10_firstWeary_14 : decode cX10_firstWeary 14 = .ok (.getfield 30, 3) := by decide +kernel
theorem dX10_firstWeary_17 : decode cX10_firstWeary 17 = .ok (.iload_n 1, 1) := by decide +kernel
theorem dX10_firstWeary_18 : decode cX10_firstWeary 18 = .ok (.invokevirtual 149, 3) := by decide +kernel
theorem dX10_firstWeary_21 : decode cX10_firstWeary 21 = .ok (.ifCond .ne 24, 3) := by decide +kernel
theorem dX10_firstWeary_24 : decode cX10_firstWeary 24 = .ok (.aload_n 0, 1) := by decide +kernel
theorem dX10_firstWeary_25 : decode cX10_firstWeary 25 = .ok (.getfield 30, 3) := by decide +kernel
theorem dX10_firstWeary_28 : decode cX10_firstWeary 28 = .ok (.getfield 146, 3) := by decide +kernel
theorem dX10_firstWeary_31 : decode cX10_firstWeary 31 = .ok (.iload_n 1, 1) := by decide +kernel
theorem dX10_firstWeary_32 : decode cX10_firstWeary 32 = .ok (.iaload, 1) := by decide +kernel
theorem dX10_firstWeary_33 : decode cX10_firstWeary 33 = .ok (.aload_n 0, 1) := by decide +kernel
theorem dX10_firstWeary_34 : decode cX10_firstWeary 34 = .ok (.getfield 68, 3) := by decide +kernel
theorem dX10_firstWeary_37 : decode cX10_firstWeary 37 = .ok (.getfield 273, 3) := by decide +kernel
theorem dX10_firstWeary_40 : decode cX10_firstWeary 40 = .ok (.if_icmp .lt 5, 3) := by decide +kernel
theorem dX10_firstWeary_43 : decode cX10_firstWeary 43 = .ok (.iload_n 1, 1) := by decide +kernel
theorem dX10_firstWeary_44 : decode cX10_firstWeary 44 = .ok (.ireturn, 1) := by decide +kernel
theorem dX10_firstWeary_45 : decode cX10_firstWeary 45 = .ok (.iinc 1 1, 3) := by decide +kernel
theorem dX10_firstWeary_48 : decode cX10_firstWeary 48 = .ok (.goto (-46), 3) := by decide +kernel
theorem dX10_firstWeary_51 : decode cX10_firstWeary 51 = .ok (.bipush (-2), 2) := by decide +kernel
theorem dX10_firstWeary_53 : decode cX10_firstWeary 53 = .ok (.ireturn, 1) := by decide +kernel
theorem dX10_moneyDue_0 : decode cX10_moneyDue 0 = .ok (.iconst 0, 1) := by decide +kernel
theorem dX10_moneyDue_1 : decode cX10_moneyDue 1 = .ok (.istore_n 1, 1) := by decide +kernel
theorem dX10_moneyDue_2 : decode cX10_moneyDue 2 = .ok (.iconst 0, 1) := by decide +kernel
theorem dX10_moneyDue_3 : decode cX10_moneyDue 3 = .ok (.istore_n 2, 1) := by decide +kernel
theorem dX10_moneyDue_4 : decode cX10_moneyDue 4 = .ok (.iload_n 2, 1) := by decide +kernel
theorem dX10_moneyDue_5 : decode cX10_moneyDue 5 = .ok (.aload_n 0, 1) := by decide +kernel
theorem dX10_moneyDue_6 : decode cX10_moneyDue 6 = .ok (.getfield 68, 3) := by decide +kernel
theorem dX10_moneyDue_9 : decode cX10_moneyDue 9 = .ok (.getfield 155, 3) := by decide +kernel
theorem dX10_moneyDue_12 : decode cX10_moneyDue 12 = .ok (.if_icmp .ge 29, 3) := by decide +kernel
theorem dX10_moneyDue_15 : decode cX10_moneyDue 15 = .ok (.iload_n 1, 1) := by decide +kernel
theorem dX10_moneyDue_16 : decode cX10_moneyDue 16 = .ok (.aload_n 0, 1) := by decide +kernel
theorem dX10_moneyDue_17 : decode cX10_moneyDue 17 = .ok (.getfield 47, 3) := by decide +kernel
theorem dX10_moneyDue_20 : decode cX10_moneyDue 20 = .ok (.iconst 0, 1) := by decide +kernel
theorem dX10_moneyDue_21 : decode cX10_moneyDue 21 = .ok (.aload_n 0, 1) := by decide +kernel
theorem dX10_moneyDue_22 : decode cX10_moneyDue 22 = .ok (.getfield 68, 3) := by decide +kernel
theorem dX10_moneyDue_25 : decode cX10_moneyDue 25 = .ok (.aload_n 0, 1) := by decide +kernel
theorem dX10_moneyDue_26 : decode cX10_moneyDue 26 = .ok (.getfield 26, 3) := by decide +kernel
theorem dX10_moneyDue_29 : decode cX10_moneyDue 29 = .ok (.iload_n 2, 1) := by decide +kernel
theorem dX10_moneyDue_30 : decode cX10_moneyDue 30 = .ok (.invokevirtual 152, 3) := by decide +kernel
theorem dX10_moneyDue_33 : decode cX10_moneyDue 33 = .ok (.iadd, 1) := by decide +kernel
theorem dX10_moneyDue_34 : decode cX10_moneyDue 34 = .ok (.istore_n 1, 1) := by decide +kernel
theorem dX10_moneyDue_35 : decode cX10_moneyDue 35 = .ok (.iinc 2 1, 3) := by decide +kernel
theorem dX10_moneyDue_38 : decode cX10_moneyDue 38 = .ok (.goto (-34), 3) := by decide +kernel
theorem dX10_moneyDue_41 : decode cX10_moneyDue 41 = .ok (.iload_n 1, 1) := by decide +kernel
theorem dX10_moneyDue_42 : decode cX10_moneyDue 42 = .ok (.ireturn, 1) := by decide +kernel
theorem dX10_sumOf_0 : decode cX10_sumOf 0 = .ok (.iconst 0, 1) := by decide +kernel
theorem dX10_sumOf_1 : decode cX10_sumOf 1 = .ok (.istore_n 2, 1) := by decide +kernel
theorem dX10_sumOf_2 : decode cX10_sumOf 2 = .ok (.iconst 0, 1) := by decide +kernel
theorem dX10_sumOf_3 : decode cX10_sumOf 3 = .ok (.istore_n 3, 1) := by decide +kernel
theorem dX10_sumOf_4 : decode cX10_sumOf 4 = .ok (.iload_n 3, 1) := by decide +kernel
theorem dX10_sumOf_5 : decode cX10_sumOf 5 = .ok (.aload_n 1, 1) := by decide +kernel
theorem dX10_sumOf_6 : decode cX10_sumOf 6 = .ok (.arraylength, 1) := by decide +kernel
theorem dX10_sumOf_7 : decode cX10_sumOf 7 = .ok (.if_icmp .ge 15, 3) := by decide +kernel
theorem dX10_sumOf_10 : decode cX10_sumOf 10 = .ok (.iload_n 2, 1) := by decide +kernel
theorem dX10_sumOf_11 : decode cX10_sumOf 11 = .ok (.aload_n 1, 1) := by decide +kernel
theorem dX10_sumOf_12 : decode cX10_sumOf 12 = .ok (.iload_n 3, 1) := by decide +kernel
theorem dX10_sumOf_13 : decode cX10_sumOf 13 = .ok (.iaload, 1) := by decide +kernel
theorem dX10_sumOf_14 : decode cX10_sumOf 14 = .ok (.iadd, 1) := by decide +kernel
theorem dX10_sumOf_15 : decode cX10_sumOf 15 = .ok (.istore_n 2, 1) := by decide +kernel
theorem dX10_sumOf_16 : decode cX10_sumOf 16 = .ok (.iinc 3 1, 3) := by decide +kernel
theorem dX10_sumOf_19 : decode cX10_sumOf 19 = .ok (.goto (-15), 3) := by decide +kernel
theorem dX10_sumOf_22 : decode cX10_sumOf 22 = .ok (.iload_n 2, 1) := by decide +kernel
theorem dX10_sumOf_23 : decode cX10_sumOf 23 = .ok (.ireturn, 1) := by decide +kernel
theorem dX10_clashingPairs_0 : decode cX10_clashingPairs 0 = .ok (.iconst 0, 1) := by decide +kernel
theorem dX10_clashingPairs_1 : decode cX10_clashingPairs 1 = .ok (.istore_n 1, 1) := by decide +kernel
theorem dX10_clashingPairs_2 : decode cX10_clashingPairs 2 = .ok (.iconst 0, 1) := by decide +kernel
theorem dX10_clashingPairs_3 : decode cX10_clashingPairs 3 = .ok (.istore_n 2, 1) := by decide +kernel
theorem dX10_clashingPairs_4 : decode cX10_clashingPairs 4 = .ok (.iload_n 2, 1) := by decide +kernel
theorem dX10_clashingPairs_5 : decode cX10_clashingPairs 5 = .ok (.aload_n 0, 1) := by decide +kernel
theorem dX10_clashingPairs_6 : decode cX10_clashingPairs 6 = .ok (.getfield 68, 3) := by decide +kernel
theorem dX10_clashingPairs_9 : decode cX10_clashingPairs 9 = .ok (.getfield 155, 3) := by decide +kernel
theorem dX10_clashingPairs_12 : decode cX10_clashingPairs 12 = .ok (.if_icmp .ge 24, 3) := by decide +kernel
theorem dX10_clashingPairs_15 : decode cX10_clashingPairs 15 = .ok (.iload_n 1, 1) := by decide +kernel
theorem dX10_clashingPairs_16 : decode cX10_clashingPairs 16 = .ok (.aload_n 0, 1) := by decide +kernel
theorem dX10_clashingPairs_17 : decode cX10_clashingPairs 17 = .ok (.getfield 68, 3) := by decide +kernel
theorem dX10_clashingPairs_20 : decode cX10_clashingPairs 20 = .ok (.getfield 276, 3) := by decide +kernel
theorem dX10_clashingPairs_23 : decode cX10_clashingPairs 23 = .ok (.iload_n 2, 1) := by decide +kernel
theorem dX10_clashingPairs_24 : decode cX10_clashingPairs 24 = .ok (.iaload, 1) := by decide +kernel
theorem dX10_clashingPairs_25 : decode cX10_clashingPairs 25 = .ok (.invokestatic 243, 3) := by decide +kernel
theorem dX10_clashingPairs_28 : decode cX10_clashingPairs 28 = .ok (.iadd, 1) := by decide +kernel
theorem dX10_clashingPairs_29 : decode cX10_clashingPairs 29 = .ok (.istore_n 1, 1) := by decide +kernel
theorem dX10_clashingPairs_30 : decode cX10_clashingPairs 30 = .ok (.iinc 2 1, 3) := by decide +kernel
theorem dX10_clashingPairs_33 : decode cX10_clashingPairs 33 = .ok (.goto (-29), 3) := by decide +kernel
theorem dX10_clashingPairs_36 : decode cX10_clashingPairs 36 = .ok (.iload_n 1, 1) := by decide +kernel
theorem dX10_clashingPairs_37 : decode cX10_clashingPairs 37 = .ok (.iconst 2, 1) := by decide +kernel
theorem dX10_clashingPairs_38 : decode cX10_clashingPairs 38 = .ok (.idiv, 1) := by decide +kernel
theorem dX10_clashingPairs_39 : decode cX10_clashingPairs 39 = .ok (.ireturn, 1) := by decide +kernel
theorem dX10_sundaysWithGuests_0 : decode cX10_sundaysWithGuests 0 = .ok (.iconst 0, 1) := by decide +kernel
theorem dX10_sundaysWithGuests_1 : decode cX10_sundaysWithGuests 1 = .ok (.istore_n 1, 1) := by decide +kernel
theorem dX10_sundaysWithGuests_2 : decode cX10_sundaysWithGuests 2 = .ok (.iconst 0, 1) := by decide +kernel
theorem dX10_sundaysWithGuests_3 : decode cX10_sundaysWithGuests 3 = .ok (.istore_n 2, 1) := by decide +kernel
theorem dX10_sundaysWithGuests_4 : decode cX10_sundaysWithGuests 4 = .ok (.iload_n 2, 1) := by decide +kernel
theorem dX10_sundaysWithGuests_5 : decode cX10_sundaysWithGuests 5 = .ok (.aload_n 0, 1) := by decide +kernel
theorem dX10_sundaysWithGuests_6 : decode cX10_sundaysWithGuests 6 = .ok (.getfield 68, 3) := by decide +kernel
theorem dX10_sundaysWithGuests_9 : decode cX10_sundaysWithGuests 9 = .ok (.getfield 214, 3) := by decide +kernel
theorem dX10_sundaysWithGuests_12 : decode cX10_sundaysWithGuests 12 = .ok (.if_icmp .ge 27, 3) := by decide +kernel
theorem dX10_sundaysWithGuests_15 : decode cX10_sundaysWithGuests 15 = .ok (.aload_n 0, 1) := by decide +kernel
theorem dX10_sundaysWithGuests_16 : decode cX10_sundaysWithGuests 16 = .ok (.getfield 26, 3) := by decide +kernel
theorem dX10_sundaysWithGuests_19 : decode cX10_sundaysWithGuests 19 = .ok (.getfield 123, 3) := by decide +kernel
theorem dX10_sundaysWithGuests_22 : decode cX10_sundaysWithGuests 22 = .ok (.iload_n 2, 1) := by decide +kernel
theorem dX10_sundaysWithGuests_23 : decode cX10_sundaysWithGuests 23 = .ok (.iaload, 1) := by decide +kernel
theorem dX10_sundaysWithGuests_24 : decode cX10_sundaysWithGuests 24 = .ok (.ifCond .eq 9, 3) := by decide +kernel
theorem dX10_sundaysWithGuests_27 : decode cX10_sundaysWithGuests 27 = .ok (.iload_n 1, 1) := by decide +kernel
theorem dX10_sundaysWithGuests_28 : decode cX10_sundaysWithGuests 28 = .ok (.iconst 1, 1) := by decide +kernel
theorem dX10_sundaysWithGuests_29 : decode cX10_sundaysWithGuests 29 = .ok (.iload_n 2, 1) := by decide +kernel
theorem dX10_sundaysWithGuests_30 : decode cX10_sundaysWithGuests 30 = .ok (.ishl, 1) := by decide +kernel
theorem dX10_sundaysWithGuests_31 : decode cX10_sundaysWithGuests 31 = .ok (.ior, 1) := by decide +kernel
theorem dX10_sundaysWithGuests_32 : decode cX10_sundaysWithGuests 32 = .ok (.istore_n 1, 1) := by decide +kernel
theorem dX10_sundaysWithGuests_33 : decode cX10_sundaysWithGuests 33 = .ok (.iinc 2 1, 3) := by decide +kernel
theorem dX10_sundaysWithGuests_36 : decode cX10_sundaysWithGuests 36 = .ok (.goto (-32), 3) := by decide +kernel
theorem dX10_sundaysWithGuests_39 : decode cX10_sundaysWithGuests 39 = .ok (.iload_n 1, 1) := by decide +kernel
theorem dX10_sundaysWithGuests_40 : decode cX10_sundaysWithGuests 40 = .ok (.ireturn, 1) := by decide +kernel
theorem dX10_guestsFittingAny_0 : decode cX10_guestsFittingAny 0 = .ok (.iconst 0, 1) := by decide +kernel
theorem dX10_guestsFittingAny_1 : decode cX10_guestsFittingAny 1 = .ok (.istore_n 1, 1) := by decide +kernel
theorem dX10_guestsFittingAny_2 : decode cX10_guestsFittingAny 2 = .ok (.iconst 0, 1) := by decide +kernel
theorem dX10_guestsFittingAny_3 : decode cX10_guestsFittingAny 3 = .ok (.istore_n 2, 1) := by decide +kernel
theorem dX10_guestsFittingAny_4 : decode cX10_guestsFittingAny 4 = .ok (.iload_n 2, 1) := by decide +kernel
theorem dX10_guestsFittingAny_5 : decode cX10_guestsFittingAny 5 = .ok (.aload_n 0, 1) := by decide +kernel
theorem dX10_guestsFittingAny_6 : decode cX10_guestsFittingAny 6 = .ok (.getfield 68, 3) := by decide +kernel
theorem dX10_guestsFittingAny_9 : decode cX10_guestsFittingAny 9 = .ok (.getfield 155, 3) := by decide +kernel
theorem dX10_guestsFittingAny_12 : decode cX10_guestsFittingAny 12 = .ok (.if_icmp .ge 23, 3) := by decide +kernel
theorem dX10_guestsFittingAny_15 : decode cX10_guestsFittingAny 15 = .ok (.aload_n 0, 1) := by decide +kernel
theorem dX10_guestsFittingAny_16 : decode cX10_guestsFittingAny 16 = .ok (.iload_n 2, 1) := by decide +kernel
theorem dX10_guestsFittingAny_17 : decode cX10_guestsFittingAny 17 = .ok (.invokevirtual 248, 3) := by decide +kernel
theorem dX10_guestsFittingAny_20 : decode cX10_guestsFittingAny 20 = .ok (.ifCond .eq 9, 3) := by decide +kernel
theorem dX10_guestsFittingAny_23 : decode cX10_guestsFittingAny 23 = .ok (.iload_n 1, 1) := by decide +kernel
theorem dX10_guestsFittingAny_24 : decode cX10_guestsFittingAny 24 = .ok (.iconst 1, 1) := by decide +kernel
theorem dX10_guestsFittingAny_25 : decode cX10_guestsFittingAny 25 = .ok (.iload_n 2, 1) := by decide +kernel
theorem dX10_guestsFittingAny_26 : decode cX10_guestsFittingAny 26 = .ok (.ishl, 1) := by decide +kernel
theorem dX10_guestsFittingAny_27 : decode cX10_guestsFittingAny 27 = .ok (.ior, 1) := by decide +kernel
theorem dX10_guestsFittingAny_28 : decode cX10_guestsFittingAny 28 = .ok (.istore_n 1, 1) := by decide +kernel
theorem dX10_guestsFittingAny_29 : decode cX10_guestsFittingAny 29 = .ok (.iinc 2 1, 3) := by decide +kernel
theorem dX10_guestsFittingAny_32 : decode cX10_guestsFittingAny 32 = .ok (.goto (-28), 3) := by decide +kernel
theorem dX10_guestsFittingAny_35 : decode cX10_guestsFittingAny 35 = .ok (.iload_n 1, 1) := by decide +kernel
theorem dX10_guestsFittingAny_36 : decode cX10_guestsFittingAny 36 = .ok (.ireturn, 1) := by decide +kernel
theorem dX10_hoursNotSold_0 : decode cX10_hoursNotSold 0 = .ok (.iconst 0, 1) := by decide +kernel
theorem dX10_hoursNotSold_1 : decode cX10_hoursNotSold 1 = .ok (.istore_n 1, 1) := by decide +kernel
theorem dX10_hoursNotSold_2 : decode cX10_hoursNotSold 2 = .ok (.iconst 0, 1) := by decide +kernel
theorem dX10_hoursNotSold_3 : decode cX10_hoursNotSold 3 = .ok (.istore_n 2, 1) := by decide +kernel
theorem dX10_hoursNotSold_4 : decode cX10_hoursNotSold 4 = .ok (.iload_n 2, 1) := by decide +kernel
theorem dX10_hoursNotSold_5 : decode cX10_hoursNotSold 5 = .ok (.aload_n 0, 1) := by decide +kernel
theorem dX10_hoursNotSold_6 : decode cX10_hoursNotSold 6 = .ok (.getfield 68, 3) := by decide +kernel
theorem dX10_hoursNotSold_9 : decode cX10_hoursNotSold 9 = .ok (.getfield 214, 3) := by decide +kernel
theorem dX10_hoursNotSold_12 : decode cX10_hoursNotSold 12 = .ok (.if_icmp .ge 32, 3) := by decide +kernel
theorem dX10_hoursNotSold_15 : decode cX10_hoursNotSold 15 = .ok (.aload_n 0, 1) := by decide +kernel
theorem dX10_hoursNotSold_16 : decode cX10_hoursNotSold 16 = .ok (.getfield 26, 3) := by decide +kernel
theorem dX10_hoursNotSold_19 : decode cX10_hoursNotSold 19 = .ok (.iload_n 2, 1) := by decide +kernel
theorem dX10_hoursNotSold_20 : decode cX10_hoursNotSold 20 = .ok (.invokevirtual 120, 3) := by decide +kernel
theorem dX10_hoursNotSold_23 : decode cX10_hoursNotSold 23 = .ok (.ifCond .ne 15, 3) := by decide +kernel
theorem dX10_hoursNotSold_26 : decode cX10_hoursNotSold 26 = .ok (.iload_n 1, 1) := by decide +kernel
theorem dX10_hoursNotSold_27 : decode cX10_hoursNotSold 27 = .ok (.aload_n 0, 1) := by decide +kernel
theorem dX10_hoursNotSold_28 : decode cX10_hoursNotSold 28 = .ok (.getfield 68, 3) := by decide +kernel
theorem dX10_hoursNotSold_31 : decode cX10_hoursNotSold 31 = .ok (.getfield 110, 3) := by decide +kernel
theorem dX10_hoursNotSold_34 : decode cX10_hoursNotSold 34 = .ok (.iload_n 2, 1) := by decide +kernel
theorem dX10_hoursNotSold_35 : decode cX10_hoursNotSold 35 = .ok (.iaload, 1) := by decide +kernel
theorem dX10_hoursNotSold_36 : decode cX10_hoursNotSold 36 = .ok (.iadd, 1) := by decide +kernel
theorem dX10_hoursNotSold_37 : decode cX10_hoursNotSold 37 = .ok (.istore_n 1, 1) := by decide +kernel
theorem dX10_hoursNotSold_38 : decode cX10_hoursNotSold 38 = .ok (.iinc 2 1, 3) := by decide +kernel
theorem dX10_hoursNotSold_41 : decode cX10_hoursNotSold 41 = .ok (.goto (-37), 3) := by decide +kernel
theorem dX10_hoursNotSold_44 : decode cX10_hoursNotSold 44 = .ok (.iload_n 1, 1) := by decide +kernel
theorem dX10_hoursNotSold_45 : decode cX10_hoursNotSold 45 = .ok (.ireturn, 1) := by decide +kernel
theorem dX10_feesOfLiving_0 : decode cX10_feesOfLiving 0 = .ok (.iconst 0, 1) := by decide +kernel
theorem dX10_feesOfLiving_1 : decode cX10_feesOfLiving 1 = .ok (.istore_n 1, 1) := by decide +kernel
theorem dX10_feesOfLiving_2 : decode cX10_feesOfLiving 2 = .ok (.iconst 0, 1) := by decide +kernel
theorem dX10_feesOfLiving_3 : decode cX10_feesOfLiving 3 = .ok (.istore_n 2, 1) := by decide +kernel
theorem dX10_feesOfLiving_4 : decode cX10_feesOfLiving 4 = .ok (.iload_n 2, 1) := by decide +kernel
theorem dX10_feesOfLiving_5 : decode cX10_feesOfLiving 5 = .ok (.aload_n 0, 1) := by decide +kernel
theorem dX10_feesOfLiving_6 : decode cX10_feesOfLiving 6 = .ok (.getfield 68, 3) := by decide +kernel
theorem dX10_feesOfLiving_9 : decode cX10_feesOfLiving 9 = .ok (.getfield 155, 3) := by decide +kernel
theorem dX10_feesOfLiving_12 : decode cX10_feesOfLiving 12 = .ok (.if_icmp .ge 32, 3) := by decide +kernel
theorem dX10_feesOfLiving_15 : decode cX10_feesOfLiving 15 = .ok (.aload_n 0, 1) := by decide +kernel
theorem dX10_feesOfLiving_16 : decode cX10_feesOfLiving 16 = .ok (.getfield 26, 3) := by decide +kernel
theorem dX10_feesOfLiving_19 : decode cX10_feesOfLiving 19 = .ok (.iload_n 2, 1) := by decide +kernel
theorem dX10_feesOfLiving_20 : decode cX10_feesOfLiving 20 = .ok (.invokevirtual 149, 3) := by decide +kernel
theorem dX10_feesOfLiving_23 : decode cX10_feesOfLiving 23 = .ok (.ifCond .ne 15, 3) := by decide +kernel
theorem dX10_feesOfLiving_26 : decode cX10_feesOfLiving 26 = .ok (.iload_n 1, 1) := by decide +kernel
theorem dX10_feesOfLiving_27 : decode cX10_feesOfLiving 27 = .ok (.aload_n 0, 1) := by decide +kernel
theorem dX10_feesOfLiving_28 : decode cX10_feesOfLiving 28 = .ok (.getfield 68, 3) := by decide +kernel
theorem dX10_feesOfLiving_31 : decode cX10_feesOfLiving 31 = .ok (.getfield 139, 3) := by decide +kernel
theorem dX10_feesOfLiving_34 : decode cX10_feesOfLiving 34 = .ok (.iload_n 2, 1) := by decide +kernel
theorem dX10_feesOfLiving_35 : decode cX10_feesOfLiving 35 = .ok (.iaload, 1) := by decide +kernel
theorem dX10_feesOfLiving_36 : decode cX10_feesOfLiving 36 = .ok (.iadd, 1) := by decide +kernel
theorem dX10_feesOfLiving_37 : decode cX10_feesOfLiving 37 = .ok (.istore_n 1, 1) := by decide +kernel
theorem dX10_feesOfLiving_38 : decode cX10_feesOfLiving 38 = .ok (.iinc 2 1, 3) := by decide +kernel
theorem dX10_feesOfLiving_41 : decode cX10_feesOfLiving 41 = .ok (.goto (-37), 3) := by decide +kernel
theorem dX10_feesOfLiving_44 : decode cX10_feesOfLiving 44 = .ok (.iload_n 1, 1) := by decide +kernel
theorem dX10_feesOfLiving_45 : decode cX10_feesOfLiving 45 = .ok (.ireturn, 1) := by decide +kernel
theorem dX11_init_0 : decode cX11_init 0 = .ok (.aload_n 0, 1) := by decide +kernel
theorem dX11_init_1 : decode cX11_init 1 = .ok (.invokespecial 7, 3) := by decide +kernel
theorem dX11_init_4 : decode cX11_init 4 = .ok (.aload_n 0, 1) := by decide +kernel
theorem dX11_init_5 : decode cX11_init 5 = .ok (.sipush 2000, 3) := by decide +kernel
theorem dX11_init_8 : decode cX11_init 8 = .ok (.newarray .byte, 2) := by decide +kernel
theorem dX11_init_10 : decode cX11_init 10 = .ok (.putfield 13, 3) := by decide +kernel
theorem dX11_init_13 : decode cX11_init 13 = .ok (.aload_n 0, 1) := by decide +kernel
theorem dX11_init_14 : decode cX11_init 14 = .ok (.sipush 2000, 3) := by decide +kernel
theorem dX11_init_17 : decode cX11_init 17 = .ok (.newarray .byte, 2) := by decide +kernel
theorem dX11_init_19 : decode cX11_init 19 = .ok (.putfield 17, 3) := by decide +kernel
theorem dX11_init_22 : decode cX11_init 22 = .ok (.aload_n 0, 1) := by decide +kernel
theorem dX11_init_23 : decode cX11_init 23 = .ok (.sipush 403, 3) := by decide +kernel
theorem dX11_init_26 : decode cX11_init 26 = .ok (.newarray .int, 2) := by decide +kernel
theorem dX11_init_28 : decode cX11_init 28 = .ok (.putfield 20, 3) := by decide +kernel
theorem dX11_init_31 : decode cX11_init 31 = .ok (.aload_n 0, 1) := by decide +kernel
theorem dX11_init_32 : decode cX11_init 32 = .ok (.sipush 403, 3) := by decide +kernel
theorem dX11_init_35 : decode cX11_init 35 = .ok (.newarray .int, 2) := by decide +kernel
theorem dX11_init_37 : decode cX11_init 37 = .ok (.putfield 24, 3) := by decide +kernel
theorem dX11_init_40 : decode cX11_init 40 = .ok (.aload_n 0, 1) := by decide +kernel
theorem dX11_init_41 : decode cX11_init 41 = .ok (.sipush 403, 3) := by decide +kernel
theorem dX11_init_44 : decode cX11_init 44 = .ok (.newarray .int, 2) := by decide +kernel
theorem dX11_init_46 : decode cX11_init 46 = .ok (.putfield 27, 3) := by decide +kernel
theorem dX11_init_49 : decode cX11_init 49 = .ok (.aload_n 0, 1) := by decide +kernel
theorem dX11_init_50 : decode cX11_init 50 = .ok (.sipush 403, 3) := by decide +kernel
theorem dX11_init_53 : decode cX11_init 53 = .ok (.newarray .long, 2) := by decide +kernel
theorem dX11_init_55 : decode cX11_init 55 = .ok (.putfield 30, 3) := by decide +kernel
theorem dX11_init_58 : decode cX11_init 58 = .ok (.aload_n 0, 1) := by decide +kernel
theorem dX11_init_59 : decode cX11_init 59 = .ok (.bipush 21, 2) := by decide +kernel
theorem dX11_init_61 : decode cX11_init 61 = .ok (.newarray .long, 2) := by decide +kernel
theorem dX11_init_63 : decode cX11_init 63 = .ok (.putfield 34, 3) := by decide +kernel
theorem dX11_init_66 : decode cX11_init 66 = .ok (.aload_n 0, 1) := by decide +kernel
theorem dX11_init_67 : decode cX11_init 67 = .ok (.iconst (-1), 1) := by decide +kernel
theorem dX11_init_68 : decode cX11_init 68 = .ok (.putfield 37, 3) := by decide +kernel
theorem dX11_init_71 : decode cX11_init 71 = .ok (.aload_n 0, 1) := by decide +kernel
theorem dX11_init_72 : decode cX11_init 72 = .ok (.bipush 11, 2) := by decide +kernel
theorem dX11_init_74 : decode cX11_init 74 = .ok (.newarray .long, 2) := by decide +kernel
theorem dX11_init_76 : decode cX11_init 76 = .ok (.putfield 40, 3) := by decide +kernel
theorem dX11_init_79 : decode cX11_init 79 = .ok (.aload_n 0, 1) := by decide +kernel
theorem dX11_init_80 : decode cX11_init 80 = .ok (.bipush 11, 2) := by decide +kernel
theorem dX11_init_82 : decode cX11_init 82 = .ok (.newarray .int, 2) := by decide +kernel
theorem dX11_init_84 : decode cX11_init 84 = .ok (.putfield 43, 3) := by decide +kernel
theorem dX11_init_87 : decode cX11_init 87 = .ok (.aload_n 0, 1) := by decide +kernel
theorem dX11_init_88 : decode cX11_init 88 = .ok (.iconst 2, 1) := by decide +kernel
theorem dX11_init_89 : decode cX11_init 89 = .ok (.newarray .int, 2) := by decide +kernel
theorem dX11_init_91 : decode cX11_init 91 = .ok (.putfield 46, 3) := by decide +kernel
theorem dX11_init_94 : decode cX11_init 94 = .ok (.aload_n 0, 1) := by decide +kernel
theorem dX11_init_95 : decode cX11_init 95 = .ok (.bipush 8, 2) := by decide +kernel
theorem dX11_init_97 : decode cX11_init 97 = .ok (.newarray .int, 2) := by decide +kernel
theorem dX11_init_99 : decode cX11_init 99 = .ok (.putfield 49, 3) := by decide +kernel
theorem dX11_init_102 : decode cX11_init 102 = .ok (.aload_n 0, 1) := by decide +kernel
theorem dX11_init_103 : decode cX11_init 103 = .ok (.bipush 8, 2) := by decide +kernel
theorem dX11_init_105 : decode cX11_init 105 = .ok (.newarray .int, 2) := by decide +kernel
theorem dX11_init_107 : decode cX11_init 107 = .ok (.putfield 52, 3) := by decide +kernel
theorem dX11_init_110 : decode cX11_init 110 = .ok (.aload_n 0, 1) := by decide +kernel
theorem dX11_init_111 : decode cX11_init 111 = .ok (.iconst 2, 1) := by decide +kernel
theorem dX11_init_112 : decode cX11_init 112 = .ok (.newarray .int, 2) := by decide +kernel
theorem dX11_init_114 : decode cX11_init 114 = .ok (.putfield 55, 3) := by decide +kernel
theorem dX11_init_117 : decode cX11_init 117 = .ok (.aload_n 0, 1) := by decide +kernel
theorem dX11_init_118 : decode cX11_init 118 = .ok (.bipush 14, 2) := by decide +kernel
theorem dX11_init_120 : decode cX11_init 120 = .ok (.newarray .int, 2) := by decide +kernel
theorem dX11_init_122 : decode cX11_init 122 = .ok (.putfield 58, 3) := by decide +kernel
theorem dX11_init_125 : decode cX11_init 125 = .ok (.aload_n 0, 1) := by decide +kernel
theorem dX11_init_126 : decode cX11_init 126 = .ok (.bipush 14, 2) := by decide +kernel
theorem dX11_init_128 : decode cX11_init 128 = .ok (.newarray .int, 2) := by decide +kernel
theorem dX11_init_130 : decode cX11_init 130 = .ok (.putfield 61, 3) := by decide +kernel
theorem dX11_init_133 : decode cX11_init 133 = .ok (.aload_n 0, 1) := by decide +kernel
theorem dX11_init_134 : decode cX11_init 134 = .ok (.bipush 14, 2) := by decide +kernel
theorem dX11_init_136 : decode cX11_init 136 = .ok (.newarray .int, 2) := by decide +kernel
theorem dX11_init_138 : decode cX11_init 138 = .ok (.putfield 64, 3) := by decide +kernel
theorem dX11_init_141 : decode cX11_init 141 = .ok (.aload_n 0, 1) := by decide +kernel
theorem dX11_init_142 : decode cX11_init 142 = .ok (.bipush 14, 2) := by decide +kernel
theorem dX11_init_144 : decode cX11_init 144 = .ok (.newarray .int, 2) := by decide +kernel
theorem dX11_init_146 : decode cX11_init 146 = .ok (.putfield 67, 3) := by decide +kernel
theorem dX11_init_149 : decode cX11_init 149 = .ok (.aload_n 0, 1) := by decide +kernel
theorem dX11_init_150 : decode cX11_init 150 = .ok (.iconst 2, 1) := by decide +kernel
theorem dX11_init_151 : decode cX11_init 151 = .ok (.newarray .int, 2) := by decide +kernel
theorem dX11_init_153 : decode cX11_init 153 = .ok (.putfield 70, 3) := by decide +kernel
theorem dX11_init_156 : decode cX11_init 156 = .ok (.aload_n 0, 1) := by decide +kernel
theorem dX11_init_157 : decode cX11_init 157 = .ok (.iconst 2, 1) := by decide +kernel
theorem dX11_init_158 : decode cX11_init 158 = .ok (.newarray .int, 2) := by decide +kernel
theorem dX11_init_160 : decode cX11_init 160 = .ok (.putfield 73, 3) := by decide +kernel
theorem dX11_init_163 : decode cX11_init 163 = .ok (.aload_n 0, 1) := by decide +kernel
theorem dX11_init_164 : decode cX11_init 164 = .ok (.iconst 2, 1) := by decide +kernel
theorem dX11_init_165 : decode cX11_init 165 = .ok (.newarray .int, 2) := by decide +kernel
theorem dX11_init_167 : decode cX11_init 167 = .ok (.putfield 76, 3) := by decide +kernel
theorem dX11_init_170 : decode cX11_init 170 = .ok (.aload_n 0, 1) := by decide +kernel
theorem dX11_init_171 : decode cX11_init 171 = .ok (.bipush 8, 2) := by decide +kernel
theorem dX11_init_173 : decode cX11_init 173 = .ok (.newarray .int, 2) := by decide +kernel
theorem dX11_init_175 : decode cX11_init 175 = .ok (.putfield 79, 3) := by decide +kernel
theorem dX11_init_178 : decode cX11_init 178 = .ok (.aload_n 0, 1) := by decide +kernel
theorem dX11_init_179 : decode cX11_init 179 = .ok (.bipush 8, 2) := by decide +kernel
theorem dX11_init_181 : decode cX11_init 181 = .ok (.newarray .int, 2) := by decide +kernel
theorem dX11_init_183 : decode cX11_init 183 = .ok (.putfield 82, 3) := by decide +kernel
theorem dX11_init_186 : decode cX11_init 186 = .ok (.aload_n 0, 1) := by decide +kernel
theorem dX11_init_187 : decode cX11_init 187 = .ok (.sipush 260, 3) := by decide +kernel
theorem dX11_init_190 : decode cX11_init 190 = .ok (.newarray .boolean, 2) := by decide +kernel
theorem dX11_init_192 : decode cX11_init 192 = .ok (.putfield 85, 3) := by decide +kernel
theorem dX11_init_195 : decode cX11_init 195 = .ok (.aload_n 0, 1) := by decide +kernel
theorem dX11_init_196 : decode cX11_init 196 = .ok (.sipush 260, 3) := by decide +kernel
theorem dX11_init_199 : decode cX11_init 199 = .ok (.newarray .int, 2) := by decide +kernel
theorem dX11_init_201 : decode cX11_init 201 = .ok (.putfield 89, 3) := by decide +kernel
theorem dX11_init_204 : decode cX11_init 204 = .ok (.aload_n 0, 1) := by decide +kernel
theorem dX11_init_205 : decode cX11_init 205 = .ok (.sipush 260, 3) := by decide +kernel
theorem dX11_init_208 : decode cX11_init 208 = .ok (.newarray .int, 2) := by decide +kernel
theorem dX11_init_210 : decode cX11_init 210 = .ok (.putfield 92, 3) := by decide +kernel
theorem dX11_init_213 : decode cX11_init 213 = .ok (.aload_n 0, 1) := by decide +kernel
theorem dX11_init_214 : decode cX11_init 214 = .ok (.sipush 260, 3) := by decide +kernel
theorem dX11_init_217 : decode cX11_init 217 = .ok (.newarray .int, 2) := by decide +kernel
theorem dX11_init_219 : decode cX11_init 219 = .ok (.putfield 95, 3) := by decide +kernel
theorem dX11_init_222 : decode cX11_init 222 = .ok (.aload_n 0, 1) := by decide +kernel
theorem dX11_init_223 : decode cX11_init 223 = .ok (.sipush 260, 3) := by decide +kernel
theorem dX11_init_226 : decode cX11_init 226 = .ok (.newarray .int, 2) := by decide +kernel
theorem dX11_init_228 : decode cX11_init 228 = .ok (.putfield 98, 3) := by decide +kernel
theorem dX11_init_231 : decode cX11_init 231 = .ok (.aload_n 0, 1) := by decide +kernel
theorem dX11_init_232 : decode cX11_init 232 = .ok (.sipush 840, 3) := by decide +kernel
theorem dX11_init_235 : decode cX11_init 235 = .ok (.newarray .int, 2) := by decide +kernel
theorem dX11_init_237 : decode cX11_init 237 = .ok (.putfield 101, 3) := by decide +kernel
theorem dX11_init_240 : decode cX11_init 240 = .ok (.aload_n 0, 1) := by decide +kernel
theorem dX11_init_241 : decode cX11_init 241 = .ok (.sipush 840, 3) := by decide +kernel
theorem dX11_init_244 : decode cX11_init 244 = .ok (.newarray .int, 2) := by decide +kernel
theorem dX11_init_246 : decode cX11_init 246 = .ok (.putfield 104, 3) := by decide +kernel
theorem dX11_init_249 : decode cX11_init 249 = .ok (.aload_n 0, 1) := by decide +kernel
theorem dX11_init_250 : decode cX11_init 250 = .ok (.bipush 64, 2) := by decide +kernel
theorem dX11_init_252 : decode cX11_init 252 = .ok (.newarray .int, 2) := by decide +kernel
theorem dX11_init_254 : decode cX11_init 254 = .ok (.putfield 107, 3) := by decide +kernel
theorem dX11_init_257 : decode cX11_init 257 = .ok (.aload_n 0, 1) := by decide +kernel
theorem dX11_init_258 : decode cX11_init 258 = .ok (.bipush 9, 2) := by decide +kernel
theorem dX11_init_260 : decode cX11_init 260 = .ok (.newarray .int, 2) := by decide +kernel
theorem dX11_init_262 : decode cX11_init 262 = .ok (.putfield 110, 3) := by decide +kernel
theorem dX11_init_265 : decode cX11_init 265 = .ok (.aload_n 0, 1) := by decide +kernel
theorem dX11_init_266 : decode cX11_init 266 = .ok (.sipush 400, 3) := by decide +kernel
theorem dX11_init_269 : decode cX11_init 269 = .ok (.newarray .int, 2) := by decide +kernel
theorem dX11_init_271 : decode cX11_init 271 = .ok (.putfield 113, 3) := by decide +kernel
theorem dX11_init_274 : decode cX11_init 274 = .ok (.aload_n 0, 1) := by decide +kernel
theorem dX11_init_275 : decode cX11_init 275 = .ok (.bipush 31, 2) := by decide +kernel
theorem dX11_init_277 : decode cX11_init 277 = .ok (.newarray .int, 2) := by decide +kernel
theorem dX11_init_279 : decode cX11_init 279 = .ok (.putfield 116, 3) := by decide +kernel
theorem dX11_init_282 : decode cX11_init 282 = .ok (.aload_n 0, 1) := by decide +kernel
theorem dX11_init_283 : decode cX11_init 283 = .ok (.bipush 31, 2) := by decide +kernel
theorem dX11_init_285 : decode cX11_init 285 = .ok (.newarray .int, 2) := by decide +kernel
theorem dX11_init_287 : decode cX11_init 287 = .ok (.putfield 119, 3) := by decide +kernel
theorem dX11_init_290 : decode cX11_init 290 = .ok (.aload_n 0, 1) := by decide +kernel
theorem dX11_init_291 : decode cX11_init 291 = .ok (.bipush 7, 2) := by decide +kernel
theorem dX11_init_293 : decode cX11_init 293 = .ok (.newarray .int, 2) := by decide +kernel
theorem dX11_init_295 : decode cX11_init 295 = .ok (.putfield 122, 3) := by decide +kernel
theorem dX11_init_298 : decode cX11_init 298 = .ok (.aload_n 0, 1) := by decide +kernel
theorem dX11_init_299 : decode cX11_init 299 = .ok (.iconst 4, 1) := by decide +kernel
theorem dX11_init_300 : decode cX11_init 300 = .ok (.newarray .int, 2) := by decide +kernel
theorem dX11_init_302 : decode cX11_init 302 = .ok (.putfield 125, 3) := by decide +kernel
theorem dX11_init_305 : decode cX11_init 305 = .ok (.aload_n 0, 1) := by decide +kernel
theorem dX11_init_306 : decode cX11_init 306 = .ok (.sipush 1240, 3) := by decide +kernel
theorem dX11_init_309 : decode cX11_init 309 = .ok (.newarray .int, 2) := by decide +kernel
theorem dX11_init_311 : decode cX11_init 311 = .ok (.putfield 128, 3) := by decide +kernel
theorem dX11_init_314 : decode cX11_init 314 = .ok (.aload_n 0, 1) := by decide +kernel
theorem dX11_init_315 : decode cX11_init 315 = .ok (.sipush 512, 3) := by decide +kernel
theorem dX11_init_318 : decode cX11_init 318 = .ok (.newarray .int, 2) := by decide +kernel
theorem dX11_init_320 : decode cX11_init 320 = .ok (.putfield 131, 3) := by decide +kernel
theorem dX11_init_323 : decode cX11_init 323 = .ok (.aload_n 0, 1) := by decide +kernel
theorem dX11_init_324 : decode cX11_init 324 = .ok (.sipush 640, 3) := by decide +kernel
theorem dX11_init_327 : decode cX11_init 327 = .ok (.newarray .int, 2) := by decide +kernel
theorem dX11_init_329 : decode cX11_init 329 = .ok (.putfield 134, 3) := by decide +kernel
theorem dX11_init_332 : decode cX11_init 332 = .ok (.aload_n 0, 1) := by decide +kernel
theorem dX11_init_333 : decode cX11_init 333 = .ok (.sipush 2048, 3) := by decide +kernel
theorem dX11_init_336 : decode cX11_init 336 = .ok (.newarray .boolean, 2) := by decide +kernel
theorem dX11_init_338 : decode cX11_init 338 = .ok (.putfield 137, 3) := by decide +kernel
theorem dX11_init_341 : decode cX11_init 341 = .ok (.aload_n 0, 1) := by decide +kernel
theorem dX11_init_342 : decode cX11_init 342 = .ok (.sipush 128, 3) := by decide +kernel
theorem dX11_init_345 : decode cX11_init 345 = .ok (.newarray .int, 2) := by decide +kernel
theorem dX11_init_347 : decode cX11_init 347 = .ok (.putfield 140, 3) := by decide +kernel
theorem dX11_init_350 : decode cX11_init 350 = .ok (.aload_n 0, 1) := by decide +kernel
theorem dX11_init_351 : decode cX11_init 351 = .ok (.bipush 20, 2) := by decide +kernel
theorem dX11_init_353 : decode cX11_init 353 = .ok (.newarray .int, 2) := by decide +kernel
theorem dX11_init_355 : decode cX11_init 355 = .ok (.putfield 143, 3) := by decide +kernel
theorem dX11_init_358 : decode cX11_init 358 = .ok (.aload_n 0, 1) := by decide +kernel
theorem dX11_init_359 : decode cX11_init 359 = .ok (.bipush 20, 2) := by decide +kernel
theorem dX11_init_361 : decode cX11_init 361 = .ok (.newarray .boolean, 2) := by decide +kernel
theorem dX11_init_363 : decode cX11_init 363 = .ok (.putfield 146, 3) := by decide +kernel
theorem dX11_init_366 : decode cX11_init 366 = .ok (.aload_n 0, 1) := by decide +kernel
theorem dX11_init_367 : decode cX11_init 367 = .ok (.iconst 3, 1) := by decide +kernel
theorem dX11_init_368 : decode cX11_init 368 = .ok (.newarray .boolean, 2) := by decide +kernel
theorem dX11_init_370 : decode cX11_init 370 = .ok (.putfield 149, 3) := by decide +kernel
theorem dX11_init_373 : decode cX11_init 373 = .ok (.aload_n 0, 1) := by decide +kernel
theorem dX11_init_374 : decode cX11_init 374 = .ok (.bipush 93, 2) := by decide +kernel
theorem dX11_init_376 : decode cX11_init 376 = .ok (.newarray .int, 2) := by decide +kernel
theorem dX11_init_378 : decode cX11_init 378 = .ok (.putfield 152, 3) := by decide +kernel
theorem dX11_init_381 : decode cX11_init 381 = .ok (.aload_n 0, 1) := by decide +kernel
theorem dX11_init_382 : decode cX11_init 382 = .ok (.iconst 0, 1) := by decide +kernel
theorem dX11_init_383 : decode cX11_init 383 = .ok (.invokevirtual 155, 3) := by decide +kernel
theorem dX11_init_386 : decode cX11_init 386 = .ok (.aload_n 0, 1) := by decide +kernel
theorem dX11_init_387 : decode cX11_init 387 = .ok (.iconst 1, 1) := by decide +kernel
theorem dX11_init_388 : decode cX11_init 388 = .ok (.invokevirtual 155, 3) := by decide +kernel
theorem dX11_init_391 : decode cX11_init 391 = .ok (.aload_n 0, 1) := by decide +kernel
theorem dX11_init_392 : decode cX11_init 392 = .ok (.getfield 34, 3) := by decide +kernel
theorem dX11_init_395 : decode cX11_init 395 = .ok (.iconst 0, 1) := by decide +kernel
theorem dX11_init_396 : decode cX11_init 396 = .ok (.bipush 115, 2) := by decide +kernel
theorem dX11_init_398 : decode cX11_init 398 = .ok (.bipush 117, 2) := by decide +kernel
theorem dX11_init_400 : decode cX11_init 400 = .ok (.bipush 110, 2) := by decide +kernel
theorem dX11_init_402 : decode cX11_init 402 = .ok (.bipush 100, 2) := by decide +kernel
theorem dX11_init_404 : decode cX11_init 404 = .ok (.bipush 97, 2) := by decide +kernel
theorem dX11_init_406 : decode cX11_init 406 = .ok (.bipush 121, 2) := by decide +kernel
theorem dX11_init_408 : decode cX11_init 408 = .ok (.iconst 0, 1) := by decide +kernel
theorem dX11_init_409 : decode cX11_init 409 = .ok (.invokestatic 159, 3) := by decide +kernel
theorem dX11_init_412 : decode cX11_init 412 = .ok (.lastore, 1) := by decide +kernel
theorem dX11_init_413 : decode cX11_init 413 = .ok (.aload_n 0, 1) := by decide +kernel
theorem dX11_init_414 : decode cX11_init 414 = .ok (.getfield 34, 3) := by decide +kernel
theorem dX11_init_417 : decode cX11_init 417 = .ok (.iconst 1, 1) := by decide +kernel
theorem dX11_init_418 : decode cX11_init 418 = .ok (.bipush 103, 2) := by decide +kernel
theorem dX11_init_420 : decode cX11_init 420 = .ok (.bipush 117, 2) := by decide +kernel
theorem dX11_init_422 : decode cX11_init 422 = .ok (.bipush 101, 2) := by decide +kernel
theorem dX11_init_424 : decode cX11_init 424 = .ok (.bipush 115, 2) := by decide +kernel
theorem dX11_init_426 : decode cX11_init 426 = .ok (.bipush 116, 2) := by decide +kernel
theorem dX11_init_428 : decode cX11_init 428 = .ok (.iconst 0, 1) := by decide +kernel
theorem dX11_init_429 : decode cX11_init 429 = .ok (.iconst 0, 1) := by decide +kernel
theorem dX11_init_430 : decode cX11_init 430 = .ok (.invokestatic 159, 3) := by decide +kernel
theorem dX11_init_433 : decode cX11_init 433 = .ok (.lastore, 1) := by decide +kernel
theorem dX11_init_434 : decode cX11_init 434 = .ok (.aload_n 0, 1) := by decide +kernel
theorem dX11_init_435 : decode cX11_init 435 = .ok (.getfield 34, 3) := by decide +kernel
theorem dX11_init_438 : decode cX11_init 438 = .ok (.iconst 2, 1) := by decide +kernel
theorem dX11_init_439 : decode cX11_init 439 = .ok (.bipush 102, 2) := by decide +kernel
theorem dX11_init_441 : decode cX11_init 441 = .ok (.bipush 111, 2) := by decide +kernel
theorem dX11_init_443 : decode cX11_init 443 = .ok (.bipush 101, 2) := by decide +kernel
theorem dX11_init_445 : decode cX11_init 445 = .ok (.bipush 115, 2) := by decide +kernel
theorem dX11_init_447 : decode cX11_init 447 = .ok (.iconst 0, 1) := by decide +kernel
theorem dX11_init_448 : decode cX11_init 448 = .ok (.iconst 0, 1) := by decide +kernel
theorem dX11_init_449 : decode cX11_init 449 = .ok (.iconst 0, 1) := by decide +kernel
theorem dX11_init_450 : decode cX11_init 450 = .ok (.invokestatic 159, 3) := by decide +kernel
theorem dX11_init_453 : decode cX11_init 453 = .ok (.lastore, 1) := by decide +kernel
theorem dX11_init_454 : decode cX11_init 454 = .ok (.aload_n 0, 1) := by decide +kernel
theorem dX11_init_455 : decode cX11_init 455 = .ok (.getfield 34, 3) := by decide +kernel
theorem dX11_init_458 : decode cX11_init 458 = .ok (.iconst 3, 1) := by decide +kernel
theorem dX11_init_459 : decode cX11_init 459 = .ok (.bipush 112, 2) := by decide +kernel
theorem dX11_init_461 : decode cX11_init 461 = .ok (.bipush 97, 2) := by decide +kernel
theorem dX11_init_463 : decode cX11_init 463 = .ok (.bipush 121, 2) := by decide +kernel
theorem dX11_init_465 : decode cX11_init 465 = .ok (.bipush 115, 2) := by decide +kernel
theorem dX11_init_467 : decode cX11_init 467 = .ok (.iconst 0, 1) := by decide +kernel
theorem dX11_init_468 : decode cX11_init 468 = .ok (.iconst 0, 1) := by decide +kernel
theorem dX11_init_469 : decode cX11_init 469 = .ok (.iconst 0, 1) := by decide +kernel
theorem dX11_init_470 : decode cX11_init 470 = .ok (.invokestatic 159, 3) := by decide +kernel
theorem dX11_init_473 : decode cX11_init 473 = .ok (.lastore, 1) := by decide +kernel
theorem dX11_init_474 : decode cX11_init 474 = .ok (.aload_n 0, 1) := by decide +kernel
theorem dX11_init_475 : decode cX11_init 475 = .ok (.getfield 34, 3) := by decide +kernel
theorem dX11_init_478 : decode cX11_init 478 = .ok (.iconst 4, 1) := by decide +kernel
theorem dX11_init_479 : decode cX11_init 479 = .ok (.bipush 114, 2) := by decide +kernel
theorem dX11_init_481 : decode cX11_init 481 = .ok (.bipush 101, 2) := by decide +kernel
theorem dX11_init_483 : decode cX11_init 483 = .ok (.bipush 115, 2) := by decide +kernel
theorem dX11_init_485 : decode cX11_init 485 = .ok (.bipush 116, 2) := by decide +kernel
theorem dX11_init_487 : decode cX11_init 487 = .ok (.bipush 115, 2) := by decide +kernel
theorem dX11_init_489 : decode cX11_init 489 = .ok (.iconst 0, 1) := by decide +kernel
theorem dX11_init_490 : decode cX11_init 490 = .ok (.iconst 0, 1) := by decide +kernel
theorem dX11_init_491 : decode cX11_init 491 = .ok (.invokestatic 159, 3) := by decide +kernel
theorem dX11_init_494 : decode cX11_init 494 = .ok (.lastore, 1) := by decide +kernel
theorem dX11_init_495 : decode cX11_init 495 = .ok (.aload_n 0, 1) := by decide +kernel
theorem dX11_init_496 : decode cX11_init 496 = .ok (.getfield 34, 3) := by decide +kernel
theorem dX11_init_499 : decode cX11_init 499 = .ok (.iconst 5, 1) := by decide +kernel
theorem dX11_init_500 : decode cX11_init 500 = .ok (.bipush 119, 2) := by decide +kernel
theorem dX11_init_502 : decode cX11_init 502 = .ok (.bipush 101, 2) := by decide +kernel
theorem dX11_init_504 : decode cX11_init 504 = .ok (.bipush 97, 2) := by decide +kernel
theorem dX11_init_506 : decode cX11_init 506 = .ok (.bipush 114, 2) := by decide +kernel
theorem dX11_init_508 : decode cX11_init 508 = .ok (.bipush 115, 2) := by decide +kernel
theorem dX11_init_510 : decode cX11_init 510 = .ok (.iconst 0, 1) := by decide +kernel
theorem dX11_init_511 : decode cX11_init 511 = .ok (.iconst 0, 1) := by decide +kernel
theorem dX11_init_512 : decode cX11_init 512 = .ok (.invokestatic 159, 3) := by decide +kernel
theorem dX11_init_515 : decode cX11_init 515 = .ok (.lastore, 1) := by decide +kernel
theorem dX11_init_516 : decode cX11_init 516 = .ok (.aload_n 0, 1) := by decide +kernel
theorem dX11_init_517 : decode cX11_init 517 = .ok (.getfield 34, 3) := by decide +kernel
theorem dX11_init_520 : decode cX11_init 520 = .ok (.bipush 6, 2) := by decide +kernel
theorem dX11_init_522 : decode cX11_init 522 = .ok (.bipush 115, 2) := by decide +kernel
theorem dX11_init_524 : decode cX11_init 524 = .ok (.bipush 101, 2) := by decide +kernel
theorem dX11_init_526 : decode cX11_init 526 = .ok (.bipush 108, 2) := by decide +kernel
theorem dX11_init_528 : decode cX11_init 528 = .ok (.bipush 108, 2) := by decide +kernel
theorem dX11_init_530 : decode cX11_init 530 = .ok (.bipush 115, 2) := by decide +kernel
theorem dX11_init_532 : decode cX11_init 532 = .ok (.iconst 0, 1) := by decide +kernel
theorem dX11_init_533 : decode cX11_init 533 = .ok (.iconst 0, 1) := by decide +kernel
theorem dX11_init_534 : decode cX11_init 534 = .ok (.invokestatic 159, 3) := by decide +kernel
theorem dX11_init_537 : decode cX11_init 537 = .ok (.lastore, 1) := by decide +kernel
theorem dX11_init_538 : decode cX11_init 538 = .ok (.aload_n 0, 1) := by decide +kernel
theorem dX11_init_539 : decode cX11_init 539 = .ok (.getfield 34, 3) := by decide +kernel
theorem dX11_init_542 : decode cX11_init 542 = .ok (.bipush 7, 2) := by decide +kernel
theorem dX11_init_544 : decode cX11_init 544 = .ok (.bipush 100, 2) := by decide +kernel
theorem dX11_init_546 : decode cX11_init 546 = .ok (.bipush 101, 2) := by decide +kernel
theorem dX11_init_548 : decode cX11_init 548 = .ok (.bipush 97, 2) := by decide +kernel
theorem dX11_init_550 : decode cX11_init 550 = .ok (.bipush 116, 2) := by decide +kernel
theorem dX11_init_552 : decode cX11_init 552 = .ok (.bipush 104, 2) := by decide +kernel
theorem dX11_init_554 : decode cX11_init 554 = .ok (.iconst 0, 1) := by decide +kernel
theorem dX11_init_555 : decode cX11_init 555 = .ok (.iconst 0, 1) := by decide +kernel
theorem dX11_init_556 : decode cX11_init 556 = .ok (.invokestatic 159, 3) := by decide +kernel
theorem dX11_init_559 : decode cX11_init 559 = .ok (.lastore, 1) := by decide +kernel
theorem dX11_init_560 : decode cX11_init 560 = .ok (.aload_n 0, 1) := by decide +kernel
theorem dX11_init_561 : decode cX11_init 561 = .ok (.getfield 34, 3) := by decide +kernel
theorem dX11_init_564 : decode cX11_init 564 = .ok (.bipush 8, 2) := by decide +kernel
theorem dX11_init_566 : decode cX11_init 566 = .ok (.bipush 115, 2) := by decide +kernel
theorem dX11_init_568 : decode cX11_init 568 = .ok (.bipush 101, 2) := by decide +kernel
theorem dX11_init_570 : decode cX11_init 570 = .ok (.bipush 101, 2) := by decide +kernel
theorem dX11_init_572 : decode cX11_init 572 = .ok (.bipush 100, 2) := by decide +kernel
theorem dX11_init_574 : decode cX11_init 574 = .ok (.iconst 0, 1) := by decide +kernel
theorem dX11_init_575 : decode cX11_init 575 = .ok (.iconst 0, 1) := by decide +kernel
theorem dX11_init_576 : decode cX11_init 576 = .ok (.iconst 0, 1) := by decide +kernel
theorem dX11_init_577 : decode cX11_init 577 = .ok (.invokestatic 159, 3) := by decide +kernel
theorem dX11_init_580 : decode cX11_init 580 = .ok (.lastore, 1) := by decide +kernel
theorem dX11_init_581 : decode cX11_init 581 = .ok (.aload_n 0, 1) := by decide +kernel
theorem dX11_init_582 : decode cX11_init 582 = .ok (.getfield 34, 3) := by decide +kernel
theorem dX11_init_585 : decode cX11_init 585 = .ok (.bipush 9, 2) := by decide +kernel
theorem dX11_init_587 : decode cX11_init 587 = .ok (.bipush 105, 2) := by decide +kernel
theorem dX11_init_589 : decode cX11_init 589 = .ok (.bipush 102, 2) := by decide +kernel
theorem dX11_init_591 : decode cX11_init 591 = .ok (.iconst 0, 1) := by decide +kernel
theorem dX11_init_592 : decode cX11_init 592 = .ok (.iconst 0, 1) := by decide +kernel
theorem dX11_init_593 : decode cX11_init 593 = .ok (.iconst 0, 1) := by decide +kernel
theorem dX11_init_594 : decode cX11_init 594 = .ok (.iconst 0, 1) := by decide +kernel
theorem dX11_init_595 : decode cX11_init 595 = .ok (.iconst 0, 1) := by decide +kernel
theorem dX11_init_596 : decode cX11_init 596 = .ok (.invokestatic 159, 3) := by decide +kernel
theorem dX11_init_599 : decode cX11_init 599 = .ok (.lastore, 1) := by decide +kernel
theorem dX11_init_600 : decode cX11_init 600 = .ok (.aload_n 0, 1) := by decide +kernel
theorem dX11_init_601 : decode cX11_init 601 = .ok (.getfield 34, 3) := by decide +kernel
theorem dX11_init_604 : decode cX11_init 604 = .ok (.bipush 10, 2) := by decide +kernel
theorem dX11_init_606 : decode cX11_init 606 = .ok (.bipush 116, 2) := by decide +kernel
theorem dX11_init_608 : decode cX11_init 608 = .ok (.bipush 104, 2) := by decide +kernel
theorem dX11_init_610 : decode cX11_init 610 = .ok (.bipush 101, 2) := by decide +kernel
theorem dX11_init_612 : decode cX11_init 612 = .ok (.bipush 110, 2) := by decide +kernel
theorem dX11_init_614 : decode cX11_init 614 = .ok (.iconst 0, 1) := by decide +kernel
theorem dX11_init_615 : decode cX11_init 615 = .ok (.iconst 0, 1) := by decide +kernel
theorem dX11_init_616 : decode cX11_init 616 = .ok (.iconst 0, 1) := by decide +kernel
theorem dX11_init_617 : decode cX11_init 617 = .ok (.invokestatic 159, 3) := by decide +kernel
theorem dX11_init_620 : decode cX11_init 620 = .ok (.lastore, 1) := by decide +kernel
theorem dX11_init_621 : decode cX11_init 621 = .ok (.aload_n 0, 1) := by decide +kernel
theorem dX11_init_622 : decode cX11_init 622 = .ok (.getfield 34, 3) := by decide +kernel
theorem dX11_init_625 : decode cX11_init 625 = .ok (.bipush 11, 2) := by decide +kernel
theorem dX11_init_627 : decode cX11_init 627 = .ok (.bipush 101, 2) := by decide +kernel
theorem dX11_init_629 : decode cX11_init 629 = .ok (.bipush 108, 2) := by decide +kernel
theorem dX11_init_631 : decode cX11_init 631 = .ok (.bipush 115, 2) := by decide +kernel
theorem dX11_init_633 : decode cX11_init 633 = .ok (.bipush 101, 2) := by decide +kernel
theorem dX11_init_635 : decode cX11_init 635 = .ok (.iconst 0, 1) := by decide +kernel
theorem dX11_init_636 : decode cX11_init 636 = .ok (.iconst 0, 1) := by decide +kernel
theorem dX11_init_637 : decode cX11_init 637 = .ok (.iconst 0, 1) := by decide +kernel
theorem dX11_init_638 : decode cX11_init 638 = .ok (.invokestatic 159, 3) := by decide +kernel
theorem dX11_init_641 : decode cX11_init 641 = .ok (.lastore, 1) := by decide +kernel
theorem dX11_init_642 : decode cX11_init 642 = .ok (.aload_n 0, 1) := by decide +kernel
theorem dX11_init_643 : decode cX11_init 643 = .ok (.getfield 34, 3) := by decide +kernel
theorem dX11_init_646 : decode cX11_init 646 = .ok (.bipush 12, 2) := by decide +kernel
theorem dX11_init_648 : decode cX11_init 648 = .ok (.bipush 102, 2) := by decide +kernel
theorem dX11_init_650 : decode cX11_init 650 = .ok (.bipush 101, 2) := by decide +kernel
theorem dX11_init_652 : decode cX11_init 652 = .ok (.bipush 101, 2) := by decide +kernel
theorem dX11_init_654 : decode cX11_init 654 = .ok (.iconst 0, 1) := by decide +kernel
theorem dX11_init_655 : decode cX11_init 655 = .ok (.iconst 0, 1) := by decide +kernel
theorem dX11_init_656 : decode cX11_init 656 = .ok (.iconst 0, 1) := by decide +kernel
theorem dX11_init_657 : decode cX11_init 657 = .ok (.iconst 0, 1) := by decide +kernel
theorem dX11_init_658 : decode cX11_init 658 = .ok (.invokestatic 159, 3) := by decide +kernel
theorem dX11_init_661 : decode cX11_init 661 = .ok (.lastore, 1) := by decide +kernel
theorem dX11_init_662 : decode cX11_init 662 = .ok (.aload_n 0, 1) := by decide +kernel
theorem dX11_init_663 : decode cX11_init 663 = .ok (.getfield 34, 3) := by decide +kernel
theorem dX11_init_666 : decode cX11_init 666 = .ok (.bipush 13, 2) := by decide +kernel
theorem dX11_init_668 : decode cX11_init 668 = .ok (.bipush 104, 2) := by decide +kernel
theorem dX11_init_670 : decode cX11_init 670 = .ok (.bipush 111, 2) := by decide +kernel
theorem dX11_init_672 : decode cX11_init 672 = .ok (.bipush 117, 2) := by decide +kernel
theorem dX11_init_674 : decode cX11_init 674 = .ok (.bipush 114, 2) := by decide +kernel
theorem dX11_init_676 : decode cX11_init 676 = .ok (.bipush 115, 2) := by decide +kernel
theorem dX11_init_678 : decode cX11_init 678 = .ok (.iconst 0, 1) := by decide +kernel
theorem dX11_init_679 : decode cX11_init 679 = .ok (.iconst 0, 1) := by decide +kernel
theorem dX11_init_680 : decode cX11_init 680 = .ok (.invokestatic 159, 3) := by decide +kernel
theorem dX11_init_683 : decode cX11_init 683 = .ok (.lastore, 1) := by decide +kernel
theorem dX11_init_684 : decode cX11_init 684 = .ok (.aload_n 0, 1) := by decide +kernel
theorem dX11_init_685 : decode cX11_init 685 = .ok (.getfield 34, 3) := by decide +kernel
theorem dX11_init_688 : decode cX11_init 688 = .ok (.bipush 14, 2) := by decide +kernel
theorem dX11_init_690 : decode cX11_init 690 = .ok (.bipush 104, 2) := by decide +kernel
theorem dX11_init_692 : decode cX11_init 692 = .ok (.bipush 111, 2) := by decide +kernel
theorem dX11_init_694 : decode cX11_init 694 = .ok (.bipush 117, 2) := by decide +kernel
theorem dX11_init_696 : decode cX11_init 696 = .ok (.bipush 114, 2) := by decide +kernel
theorem dX11_init_698 : decode cX11_init 698 = .ok (.iconst 0, 1) := by decide +kernel
theorem dX11_init_699 : decode cX11_init 699 = .ok (.iconst 0, 1) := by decide +kernel
theorem dX11_init_700 : decode cX11_init 700 = .ok (.iconst 0, 1) := by decide +kernel
theorem dX11_init_701 : decode cX11_init 701 = .ok (.invokestatic 159, 3) := by decide +kernel
theorem dX11_init_704 : decode cX11_init 704 = .ok (.lastore, 1) := by decide +kernel
theorem dX11_init_705 : decode cX11_init 705 = .ok (.aload_n 0, 1) := by decide +kernel
theorem dX11_init_706 : decode cX11_init 706 = .ok (.getfield 34, 3) := by decide +kernel
theorem dX11_init_709 : decode cX11_init 709 = .ok (.bipush 15, 2) := by decide +kernel
theorem dX11_init_711 : decode cX11_init 711 = .ok (.bipush 114, 2) := by decide +kernel
theorem dX11_init_713 : decode cX11_init 713 = .ok (.bipush 101, 2) := by decide +kernel
theorem dX11_init_715 : decode cX11_init 715 = .ok (.bipush 115, 2) := by decide +kernel
theorem dX11_init_717 : decode cX11_init 717 = .ok (.bipush 116, 2) := by decide +kernel
theorem dX11_init_719 : decode cX11_init 719 = .ok (.bipush 101, 2) := by decide +kernel
theorem dX11_init_721 : decode cX11_init 721 = .ok (.bipush 100, 2) := by decide +kernel
theorem dX11_init_723 : decode cX11_init 723 = .ok (.iconst 0, 1) := by decide +kernel
theorem dX11_init_724 : decode cX11_init 724 = .ok (.invokestatic 159, 3) := by decide +kernel
theorem dX11_init_727 : decode cX11_init 727 = .ok (.lastore, 1) := by decide +kernel
theorem dX11_init_728 : decode cX11_init 728 = .ok (.aload_n 0, 1) := by decide +kernel
theorem dX11_init_729 : decode cX11_init 729 = .ok (.getfield 34, 3) := by decide +kernel
theorem dX11_init_732 : decode cX11_init 732 = .ok (.bipush 16, 2) := by decide +kernel
theorem dX11_init_734 : decode cX11_init 734 = .ok (.bipush 119, 2) := by decide +kernel
theorem dX11_init_736 : decode cX11_init 736 = .ok (.bipush 111, 2) := by decide +kernel
theorem dX11_init_738 : decode cX11_init 738 = .ok (.bipush 114, 2) := by decide +kernel
theorem dX11_init_740 : decode cX11_init 740 = .ok (.bipush 110, 2) := by decide +kernel
theorem dX11_init_742 : decode cX11_init 742 = .ok (.iconst 0, 1) := by decide +kernel
theorem dX11_init_743 : decode cX11_init 743 = .ok (.iconst 0, 1) := by decide +kernel
theorem dX11_init_744 : decode cX11_init 744 = .ok (.iconst 0, 1) := by decide +kernel
theorem dX11_init_745 : decode cX11_init 745 = .ok (.invokestatic 159, 3) := by decide +kernel
theorem dX11_init_748 : decode cX11_init 748 = .ok (.lastore, 1) := by decide +kernel
theorem dX11_init_749 : decode cX11_init 749 = .ok (.aload_n 0, 1) := by decide +kernel
theorem dX11_init_750 : decode cX11_init 750 = .ok (.getfield 34, 3) := by decide +kernel
theorem dX11_init_753 : decode cX11_init 753 = .ok (.bipush 17, 2) := by decide +kernel
theorem dX11_init_755 : decode cX11_init 755 = .ok (.bipush 119, 2) := by decide +kernel
theorem dX11_init_757 : decode cX11_init 757 = .ok (.bipush 111, 2) := by decide +kernel
theorem dX11_init_759 : decode cX11_init 759 = .ok (.bipush 114, 2) := by decide +kernel
theorem dX11_init_761 : decode cX11_init 761 = .ok (.bipush 116, 2) := by decide +kernel
theorem dX11_init_763 : decode cX11_init 763 = .ok (.bipush 104, 2) := by decide +kernel
theorem dX11_init_765 : decode cX11_init 765 = .ok (.iconst 0, 1) := by decide +kernel
theorem dX11_init_766 : decode cX11_init 766 = .ok (.iconst 0, 1) := by decide +kernel
theorem dX11_init_767 : decode cX11_init 767 = .ok (.invokestatic 159, 3) := by decide +kernel
theorem dX11_init_770 : decode cX11_init 770 = .ok (.lastore, 1) := by decide +kernel
theorem dX11_init_771 : decode cX11_init 771 = .ok (.aload_n 0, 1) := by decide +kernel
theorem dX11_init_772 : decode cX11_init 772 = .ok (.getfield 34, 3) := by decide +kernel
theorem dX11_init_775 : decode cX11_init 775 = .ok (.bipush 18, 2) := by decide +kernel
theorem dX11_init_777 : decode cX11_init 777 = .ok (.bipush 119, 2) := by decide +kernel
theorem dX11_init_779 : decode cX11_init 779 = .ok (.bipush 101, 2) := by decide +kernel
theorem dX11_init_781 : decode cX11_init 781 = .ok (.bipush 101, 2) := by decide +kernel
theorem dX11_init_783 : decode cX11_init 783 = .ok (.bipush 107, 2) := by decide +kernel
theorem dX11_init_785 : decode cX11_init 785 = .ok (.iconst 0, 1) := by decide +kernel
theorem dX11_init_786 : decode cX11_init 786 = .ok (.iconst 0, 1) := by decide +kernel
theorem dX11_init_787 : decode cX11_init 787 = .ok (.iconst 0, 1) := by decide +kernel
theorem dX11_init_788 : decode cX11_init 788 = .ok (.invokestatic 159, 3) := by decide +kernel
theorem dX11_init_791 : decode cX11_init 791 = .ok (.lastore, 1) := by decide +kernel
theorem dX11_init_792 : decode cX11_init 792 = .ok (.aload_n 0, 1) := by decide +kernel
theorem dX11_init_793 : decode cX11_init 793 = .ok (.getfield 34, 3) := by decide +kernel
theorem dX11_init_796 : decode cX11_init 796 = .ok (.bipush 19, 2) := by decide +kernel
theorem dX11_init_798 : decode cX11_init 798 = .ok (.bipush 119, 2) := by decide +kernel
theorem dX11_init_800 : decode cX11_init 800 = .ok (.bipush 104, 2) := by decide +kernel
theorem dX11_init_802 : decode cX11_init 802 = .ok (.bipush 105, 2) := by decide +kernel
theorem dX11_init_804 : decode cX11_init 804 = .ok (.bipush 99, 2) := by decide +kernel
theorem dX11_init_806 : decode cX11_init 806 = .ok (.bipush 104, 2) := by decide +kernel
theorem dX11_init_808 : decode cX11_init 808 = .ok (.iconst 0, 1) := by decide +kernel
theorem dX11_init_809 : decode cX11_init 809 = .ok (.iconst 0, 1) := by decide +kernel
theorem dX11_init_810 : decode cX11_init 810 = .ok (.invokestatic 159, 3) := by decide +kernel
theorem dX11_init_813 : decode cX11_init 813 = .ok (.lastore, 1) := by decide +kernel
theorem dX11_init_814 : decode cX11_init 814 = .ok (.aload_n 0, 1) := by decide +kernel
theorem dX11_init_815 : decode cX11_init 815 = .ok (.getfield 34, 3) := by decide +kernel
theorem dX11_init_818 : decode cX11_init 818 = .ok (.bipush 20, 2) := by decide +kernel
theorem dX11_init_820 : decode cX11_init 820 = .ok (.bipush 111, 2) := by decide +kernel
theorem dX11_init_822 : decode cX11_init 822 = .ok (.bipush 116, 2) := by decide +kernel
theorem dX11_init_824 : decode cX11_init 824 = .ok (.bipush 104, 2) := by decide +kernel
theorem dX11_init_826 : decode cX11_init 826 = .ok (.bipush 101, 2) := by decide +kernel
theorem dX11_init_828 : decode cX11_init 828 = .ok (.bipush 114, 2) := by decide +kernel
theorem dX11_init_830 : decode cX11_init 830 = .ok (.bipush 115, 2) := by decide +kernel
theorem dX11_init_832 : decode cX11_init 832 = .ok (.iconst 0, 1) := by decide +kernel
theorem dX11_init_833 : decode cX11_init 833 = .ok (.invokestatic 159, 3) := by decide +kernel
theorem dX11_init_836 : decode cX11_init 836 = .ok (.lastore, 1) := by decide +kernel
theorem dX11_init_837 : decode cX11_init 837 = .ok (.aload_n 0, 1) := by decide +kernel
theorem dX11_init_838 : decode cX11_init 838 = .ok (.invokevirtual 163, 3) := by decide +kernel
theorem dX11_init_841 : decode cX11_init 841 = .ok (.aload_n 0, 1) := by decide +kernel
theorem dX11_init_842 : decode cX11_init 842 = .ok (.invokevirtual 166, 3) := by decide +kernel
theorem dX11_init_845 : decode cX11_init 845 = .ok (.return_, 1) := by decide +kernel
theorem dX11_feed_0 : decode cX11_feed 0 = .ok (.aload_n 0, 1) := by decide +kernel
theorem dX11_feed_1 : decode cX11_feed 1 = .ok (.getfield 169, 3) := by decide +kernel
theorem dX11_feed_4 : decode cX11_feed 4 = .ok (.bipush 20, 2) := by decide +kernel
theorem dX11_feed_6 : decode cX11_feed 6 = .ok (.iadd, 1) := by decide +kernel
theorem dX11_feed_7 : decode cX11_feed 7 = .ok (.sipush 2000, 3) := by decide +kernel
theorem dX11_feed_10 : decode cX11_feed 10 = .ok (.if_icmp .le 5, 3) := by decide +kernel
theorem dX11_feed_13 : decode cX11_feed 13 = .ok (.iconst (-1), 1) := by decide +kernel
theorem dX11_feed_14 : decode cX11_feed 14 = .ok (.ireturn, 1) := by decide +kernel
theorem dX11_feed_15 : decode cX11_feed 15 = .ok (.aload_n 0, 1) := by decide +kernel
theorem dX11_feed_16 : decode cX11_feed 16 = .ok (.iload_n 1, 1) := by decide +kernel
theorem dX11_feed_17 : decode cX11_feed 17 = .ok (.invokevirtual 172, 3) := by decide +kernel
theorem dX11_feed_20 : decode cX11_feed 20 = .ok (.aload_n 0, 1) := by decide +kernel
theorem dX11_feed_21 : decode cX11_feed 21 = .ok (.iload_n 2, 1) := by decide +kernel
theorem dX11_feed_22 : decode cX11_feed 22 = .ok (.invokevirtual 172, 3) := by decide +kernel
theorem dX11_feed_25 : decode cX11_feed 25 = .ok (.aload_n 0, 1) := by decide +kernel
theorem dX11_feed_26 : decode cX11_feed 26 = .ok (.iload_n 3, 1) := by decide +kernel
theorem dX11_feed_27 : decode cX11_feed 27 = .ok (.invokevirtual 172, 3) := by decide +kernel
theorem dX11_feed_30 : decode cX11_feed 30 = .ok (.aload_n 0, 1) := by decide +kernel
theorem dX11_feed_31 : decode cX11_feed 31 = .ok (.iload 4, 2) := by decide +kernel
theorem dX11_feed_33 : decode cX11_feed 33 = .ok (.invokevirtual 172, 3) := by decide +kernel
theorem dX11_feed_36 : decode cX11_feed 36 = .ok (.aload_n 0, 1) := by decide +kernel
theorem dX11_feed_37 : decode cX11_feed 37 = .ok (.iload 5, 2) := by decide +kernel
theorem dX11_feed_39 : decode cX11_feed 39 = .ok (.invokevirtual 172, 3) := by decide +kernel
theorem dX11_feed_42 : decode cX11_feed 42 = .ok (.aload_n 0, 1) := by decide +kernel
theorem dX11_feed_43 : decode cX11_feed 43 = .ok (.getfield 169, 3) := by decide +kernel
theorem dX11_feed_46 : decode cX11_feed 46 = .ok (.ireturn, 1) := by decide +kernel
theorem dX11_put_0 : decode cX11_put 0 = .ok (.bipush 24, 2) := by decide +kernel
theorem dX11_put_2 : decode cX11_put 2 = .ok (.istore_n 2, 1) := by decide +kernel
theorem dX11_put_3 : decode cX11_put 3 = .ok (.iload_n 2, 1) := by decide +kernel
theorem dX11_put_4 : decode cX11_put 4 = .ok (.ifCond .lt 32, 3) := by decide +kernel
theorem dX11_put_7 : decode cX11_put 7 = .ok (.aload_n 0, 1) := by decide +kernel
theorem dX11_put_8 : decode cX11_put 8 = .ok (.getfield 13, 3) := by decide +kernel
theorem dX11_put_11 : decode cX11_put 11 = .ok (.aload_n 0, 1) := by decide +kernel
theorem dX11_put_12 : decode cX11_put 12 = .ok (.getfield 169, 3) := by decide +kernel
theorem dX11_put_15 : decode cX11_put 15 = .ok (.iload_n 1, 1) := by decide +kernel
theorem dX11_put_16 : decode cX11_put 16 = .ok (.iload_n 2, 1) := by decide +kernel
theorem dX11_put_17 : decode cX11_put 17 = .ok (.ishr, 1) := by decide +kernel
theorem dX11_put_18 : decode cX11_put 18 = .ok (.i2b, 1) := by decide +kernel
theorem dX11_put_19 : decode cX11_put 19 = .ok (.bastore, 1) := by decide +kernel
theorem dX11_put_20 : decode cX11_put 20 = .ok (.aload_n 0, 1) := by decide +kernel
theorem dX11_put_21 : decode cX11_put 21 = .ok (.dup, 1) := by decide +kernel
theorem dX11_put_22 : decode cX11_put 22 = .ok (.getfield 169, 3) := by decide +kernel
theorem dX11_put_25 : decode cX11_put 25 = .ok (.iconst 1, 1) := by decide +kernel
theorem dX11_put_26 : decode cX11_put 26 = .ok (.iadd, 1) := by decide +kernel
theorem dX11_put_27 : decode cX11_put 27 = .ok (.putfield 169, 3) := by decide +kernel
theorem dX11_put_30 : decode cX11_put 30 = .ok (.iinc 2 (-8), 3) := by decide +kernel
theorem dX11_put_33 : decode cX11_put 33 = .ok (.goto (-30), 3) := by decide +kernel
theorem dX11_put_36 : decode cX11_put 36 = .ok (.return_, 1) := by decide +kernel
theorem dX11_back_0 : decode cX11_back 0 = .ok (.iload_n 1, 1) := by decide +kernel
theorem dX11_back_1 : decode cX11_back 1 = .ok (.ifCond .lt 11, 3) := by decide +kernel
theorem dX11_back_4 : decode cX11_back 4 = .ok (.iload_n 1, 1) := by decide +kernel
theorem dX11_back_5 : decode cX11_back 5 = .ok (.aload_n 0, 1) := by decide +kernel
theorem dX11_back_6 : decode cX11_back 6 = .ok (.getfield 169, 3) := by decide +kernel
theorem dX11_back_9 : decode cX11_back 9 = .ok (.if_icmp .le 5, 3) := by decide +kernel
theorem dX11_back_12 : decode cX11_back 12 = .ok (.iconst (-1), 1) := by decide +kernel
theorem dX11_back_13 : decode cX11_back 13 = .ok (.ireturn, 1) := by decide +kernel
theorem dX11_back_14 : decode cX11_back 14 = .ok (.aload_n 0, 1) := by decide +kernel
theorem dX11_back_15 : decode cX11_back 15 = .ok (.dup, 1) := by decide +kernel
theorem dX11_back_16 : decode cX11_back 16 = .ok (.getfield 169, 3) := by decide +kernel
theorem dX11_back_19 : decode cX11_back 19 = .ok (.iload_n 1, 1) := by decide +kernel
theorem dX11_back_20 : decode cX11_back 20 = .ok (.isub, 1) := by decide +kernel
theorem dX11_back_21 : decode cX11_back 21 = .ok (.putfield 169, 3) := by decide +kernel
theorem dX11_back_24 : decode cX11_back 24 = .ok (.aload_n 0, 1) := by decide +kernel
theorem dX11_back_25 : decode cX11_back 25 = .ok (.getfield 169, 3) := by decide +kernel
theorem dX11_back_28 : decode cX11_back 28 = .ok (.ireturn, 1) := by decide +kernel
theorem dX11_byteAt_0 : decode cX11_byteAt 0 = .ok (.iload_n 1, 1) := by decide +kernel
theorem dX11_byteAt_1 : decode cX11_byteAt 1 = .ok (.aload_n 0, 1) := by decide +kernel
theorem dX11_byteAt_2 : decode cX11_byteAt 2 = .ok (.getfield 175, 3) := by decide +kernel
theorem dX11_byteAt_5 : decode cX11_byteAt 5 = .ok (.if_icmp .ge 16, 3) := by decide +kernel
theorem dX11_byteAt_8 : decode cX11_byteAt 8 = .ok (.aload_n 0, 1) := by decide +kernel
theorem dX11_byteAt_9 : decode cX11_byteAt 9 = .ok (.getfield 17, 3) := by decide +kernel
theorem dX11_byteAt_12 : decode cX11_byteAt 12 = .ok (.iload_n 1, 1) := by decide +kernel
theorem dX11_byteAt_13 : decode cX11_byteAt 13 = .ok (.baload, 1) := by decide +kernel
theorem dX11_byteAt_14 : decode cX11_byteAt 14 = .ok (.sipush 255, 3) := by decide +kernel
theorem dX11_byteAt_17 : decode cX11_byteAt 17 = .ok (.iand, 1) := by decide +kernel
theorem dX11_byteAt_18 : decode cX11_byteAt 18 = .ok (.goto 4, 3) := by decide +kernel
theorem dX11_byteAt_21 : decode cX11_byteAt 21 = .ok (.iconst 0, 1) := by decide +kernel
theorem dX11_byteAt_22 : decode cX11_byteAt 22 = .ok (.ireturn, 1) := by decide +kernel
theorem dX11_isDigit_0 : decode cX11_isDigit 0 = .ok (.iload_n 0, 1) := by decide +kernel
theorem dX11_isDigit_1 : decode cX11_isDigit 1 = .ok (.bipush 48, 2) := by decide +kernel
theorem dX11_isDigit_3 : decode cX11_isDigit 3 = .ok (.if_icmp .lt 13, 3) := by decide +kernel
theorem dX11_isDigit_6 : decode cX11_isDigit 6 = .ok (.iload_n 0, 1) := by decide +kernel
theorem dX11_isDigit_7 : decode cX11_isDigit 7 = .ok (.bipush 57, 2) := by decide +kernel
theorem dX11_isDigit_9 : decode cX11_isDigit 9 = .ok (.if_icmp .gt 7, 3) := by decide +kernel
theorem dX11_isDigit_12 : decode cX11_isDigit 12 = .ok (.iconst 1, 1) := by decide +kernel
theorem dX11_isDigit_13 : decode cX11_isDigit 13 = .ok (.goto 4, 3) := by decide +kernel
theorem dX11_isDigit_16 : decode cX11_isDigit 16 = .ok (.iconst 0, 1) := by decide +kernel
theorem dX11_isDigit_17 : decode cX11_isDigit 17 = .ok (.ireturn, 1) := by decide +kernel
theorem dX11_isLetter_0 : decode cX11_isLetter 0 = .ok (.iload_n 0, 1) := by decide +kernel
theorem dX11_isLetter_1 : decode cX11_isLetter 1 = .ok (.bipush 97, 2) := by decide +kernel
theorem dX11_isLetter_3 : decode cX11_isLetter 3 = .ok (.if_icmp .lt 13, 3) := by decide +kernel
theorem dX11_isLetter_6 : decode cX11_isLetter 6 = .ok (.iload_n 0, 1) := by decide +kernel
theorem dX11_isLetter_7 : decode cX11_isLetter 7 = .ok (.bipush 122, 2) := by decide +kernel
theorem dX11_isLetter_9 : decode cX11_isLetter 9 = .ok (.if_icmp .gt 7, 3) := by decide +kernel
theorem dX11_isLetter_12 : decode cX11_isLetter 12 = .ok (.iconst 1, 1) := by decide +kernel
theorem dX11_isLetter_13 : decode cX11_isLetter 13 = .ok (.goto 4, 3) := by decide +kernel
theorem dX11_isLetter_16 : decode cX11_isLetter 16 = .ok (.iconst 0, 1) := by decide +kernel
theorem dX11_isLetter_17 : decode cX11_isLetter 17 = .ok (.ireturn, 1) := by decide +kernel
theorem dX11_appends_0 : decode cX11_appends 0 = .ok (.iload_n 2, 1) := by decide +kernel
theorem dX11_appends_1 : decode cX11_appends 1 = .ok (.ifCond .ne 7, 3) := by decide +kernel
theorem dX11_appends_4 : decode cX11_appends 4 = .ok (.lload_n 0, 1) := by decide +kernel
theorem dX11_appends_5 : decode cX11_appends 5 = .ok (.goto 16, 3) := by decide +kernel
theorem dX11_appends_8 : decode cX11_appends 8 = .ok (.ldc2_w 178, 3) := by decide +kernel
theorem dX11_appends_11 : decode cX11_appends 11 = .ok (.lload_n 0, 1) := by decide +kernel
theorem dX11_appends_12 : decode cX11_appends 12 = .ok (.lmul, 1) := by decide +kernel
theorem dX11_appends_13 : decode cX11_appends 13 = .ok (.iload_n 2, 1) := by decide +kernel
theorem dX11_appends_14 : decode cX11_appends 14 = .ok (.bipush 97, 2) := by decide +kernel
theorem dX11_appends_16 : decode cX11_appends 16 = .ok (.isub, 1) := by decide +kernel
theorem dX11_appends_17 : decode cX11_appends 17 = .ok (.iconst 1, 1) := by decide +kernel
theorem dX11_appends_18 : decode cX11_appends 18 = .ok (.iadd, 1) := by decide +kernel
theorem dX11_appends_19 : decode cX11_appends 19 = .ok (.i2l, 1) := by decide +kernel
theorem dX11_appends_20 : decode cX11_appends 20 = .ok (.ladd, 1) := by decide +kernel
theorem dX11_appends_21 : decode cX11_appends 21 = .ok (.lreturn, 1) := by decide +kernel
theorem dX11_word_0 : decode cX11_word 0 = .ok (.lconst 0, 1) := by decide +kernel
theorem dX11_word_1 : decode cX11_word 1 = .ok (.iload_n 0, 1) := by decide +kernel
theorem dX11_word_2 : decode cX11_word 2 = .ok (.invokestatic 180, 3) := by decide +kernel
theorem dX11_word_5 : decode cX11_word 5 = .ok (.iload_n 1, 1) := by decide +kernel
theorem dX11_word_6 : decode cX11_word 6 = .ok (.invokestatic 180, 3) := by decide +kernel
theorem dX11_word_9 : decode cX11_word 9 = .ok (.iload_n 2, 1) := by decide +kernel
theorem dX11_word_10 : decode cX11_word 10 = .ok (.invokestatic 180, 3) := by decide +kernel
theorem dX11_word_13 : decode cX11_word 13 = .ok (.iload_n 3, 1) := by decide +kernel
theorem dX11_word_14 : decode cX11_word 14 = .ok (.invokestatic 180, 3) := by decide +kernel
theorem dX11_word_17 : decode cX11_word 17 = .ok (.iload 4, 2) := by decide +kernel
theorem dX11_word_19 : decode cX11_word 19 = .ok (.invokestatic 180, 3) := by decide +kernel
theorem dX11_word_22 : decode cX11_word 22 = .ok (.iload 5, 2) := by decide +kernel
theorem dX11_word_24 : decode cX11_word 24 = .ok (.invokestatic 180, 3) := by decide +kernel
theorem dX11_word_27 : decode cX11_word 27 = .ok (.iload 6, 2) := by decide +kernel
theorem dX11_word_29 : decode cX11_word 29 = .ok (.invokestatic 180, 3) := by decide +kernel
theorem dX11_word_32 : decode cX11_word 32 = .ok (.lreturn, 1) := by decide +kernel
theorem dX11_token_0 : decode cX11_token 0 = .ok (.aload_n 0, 1) := by decide +kernel
theorem dX11_token_1 : decode cX11_token 1 = .ok (.getfield 20, 3) := by decide +kernel
theorem dX11_token_4 : decode cX11_token 4 = .ok (.aload_n 0, 1) := by decide +kernel
theorem dX11_token_5 : decode cX11_token 5 = .ok (.getfield 184, 3) := by decide +kernel
theorem dX11_token_8 : decode cX11_token 8 = .ok (.iload_n 1, 1) := by decide +kernel
theorem dX11_token_9 : decode cX11_token 9 = .ok (.iastore, 1) := by decide +kernel
theorem dX11_token_10 : decode cX11_token 10 = .ok (.aload_n 0, 1) := by decide +kernel
theorem dX11_token_11 : decode cX11_token 11 = .ok (.getfield 24, 3) := by decide +kernel
theorem dX11_token_14 : decode cX11_token 14 = .ok (.aload_n 0, 1) := by decide +kernel
theorem dX11_token_15 : decode cX11_token 15 = .ok (.getfield 184, 3) := by decide +kernel
theorem dX11_token_18 : decode cX11_token 18 = .ok (.iload_n 2, 1) := by decide +kernel
theorem dX11_token_19 : decode cX11_token 19 = .ok (.iastore, 1) := by decide +kernel
theorem dX11_token_20 : decode cX11_token 20 = .ok (.aload_n 0, 1) := by decide +kernel
theorem dX11_token_21 : decode cX11_token 21 = .ok (.getfield 27, 3) := by decide +kernel
theorem dX11_token_24 : decode cX11_token 24 = .ok (.aload_n 0, 1) := by decide +kernel
theorem dX11_token_25 : decode cX11_token 25 = .ok (.getfield 184, 3) := by decide +kernel
theorem dX11_token_28 : decode cX11_token 28 = .ok (.iload_n 3, 1) := by decide +kernel
theorem dX11_token_29 : decode cX11_token 29 = .ok (.iastore, 1) := by decide +kernel
theorem dX11_token_30 : decode cX11_token 30 = .ok (.aload_n 0, 1) := by decide +kernel
theorem dX11_token_31 : decode cX11_token 31 = .ok (.getfield 30, 3) := by decide +kernel
theorem dX11_token_34 : decode cX11_token 34 = .ok (.aload_n 0, 1) := by decide +kernel
theorem dX11_token_35 : decode cX11_token 35 = .ok (.getfield 184, 3) := by decide +kernel
theorem dX11_token_38 : decode cX11_token 38 = .ok (.lload 4, 2) := by decide +kernel
theorem dX11_token_40 : decode cX11_token 40 = .ok (.lastore, 1) := by decide +kernel
theorem dX11_token_41 : decode cX11_token 41 = .ok (.aload_n 0, 1) := by decide +kernel
theorem dX11_token_42 : decode cX11_token 42 = .ok (.dup, 1) := by decide +kernel
theorem dX11_token_43 : decode cX11_token 43 = .ok (.getfield 184, 3) := by decide +kernel
theorem dX11_token_46 : decode cX11_token 46 = .ok (.iconst 1, 1) := by decide +kernel
theorem dX11_token_47 : decode cX11_token 47 = .ok (.iadd, 1) := by decide +kernel
theorem dX11_token_48 : decode cX11_token 48 = .ok (.putfield 184, 3) := by decide +kernel
theorem dX11_token_51 : decode cX11_token 51 = .ok (.return_, 1) := by decide +kernel
theorem dX11_cut_0 : decode cX11_cut 0 = .ok (.aload_n 0, 1) := by decide +kernel
theorem dX11_cut_1 : decode cX11_cut 1 = .ok (.iconst 0, 1) := by decide +kernel
theorem dX11_cut_2 : decode cX11_cut 2 = .ok (.putfield 184, 3) := by decide +kernel
theorem dX11_cut_5 : decode cX11_cut 5 = .ok (.iconst 0, 1) := by decide +kernel
theorem dX11_cut_6 : decode cX11_cut 6 = .ok (.istore_n 1, 1) := by decide +kernel
theorem dX11_cut_7 : decode cX11_cut 7 = .ok (.aload_n 0, 1) := by decide +kernel
theorem dX11_cut_8 : decode cX11_cut 8 = .ok (.getfield 184, 3) := by decide +kernel
theorem dX11_cut_11 : decode cX11_cut 11 = .ok (.sipush 400, 3) := by decide +kernel
theorem dX11_cut_14 : decode cX11_cut 14 = .ok (.if_icmp .gt 280, 3) := by decide +kernel
theorem dX11_cut_17 : decode cX11_cut 17 = .ok (.aload_n 0, 1) := by decide +kernel
theorem dX11_cut_18 : decode cX11_cut 18 = .ok (.iload_n 1, 1) := by decide +kernel
theorem dX11_cut_19 : decode cX11_cut 19 = .ok (.invokevirtual 187, 3) := by decide +kernel
theorem dX11_cut_22 : decode cX11_cut 22 = .ok (.istore_n 2, 1) := by decide +kernel
theorem dX11_cut_23 : decode cX11_cut 23 = .ok (.iload_n 1, 1) := by decide +kernel
theorem dX11_cut_24 : decode cX11_cut 24 = .ok (.aload_n 0, 1) := by decide +kernel
theorem dX11_cut_25 : decode cX11_cut 25 = .ok (.getfield 175, 3) := by decide +kernel
theorem dX11_cut_28 : decode cX11_cut 28 = .ok (.if_icmp .lt 15, 3) := by decide +kernel
theorem dX11_cut_31 : decode cX11_cut 31 = .ok (.aload_n 0, 1) := by decide +kernel
theorem dX11_cut_32 : decode cX11_cut 32 = .ok (.iconst 0, 1) := by decide +kernel
theorem dX11_cut_33 : decode cX11_cut 33 = .ok (.aload_n 0, 1) := by decide +kernel
theorem dX11_cut_34 : decode cX11_cut 34 = .ok (.getfield 175, 3) := by decide +kernel
theorem dX11_cut_37 : decode cX11_cut 37 = .ok (.iconst 0, 1) := by decide +kernel
theorem dX11_cut_38 : decode cX11_cut 38 = .ok (.lconst 0, 1) := by decide +kernel
theorem dX11_cut_39 : decode cX11_cut 39 = .ok (.invokevirtual 191, 3) := by decide +kernel
theorem dX11_cut_42 : decode cX11_cut 42 = .ok (.return_, 1) := by decide +kernel
theorem dX11_cut_43 : decode cX11_cut 43 = .ok (.iload_n 2, 1) := by decide +kernel
theorem dX11_cut_44 : decode cX11_cut 44 = .ok (.bipush 9, 2) := by decide +kernel
theorem dX11_cut_46 : decode cX11_cut 46 = .ok (.if_icmp .eq 21, 3) := by decide +kernel
theorem dX11_cut_49 : decode cX11_cut 49 = .ok (.iload_n 2, 1) := by decide +kernel
theorem dX11_cut_50 : decode cX11_cut 50 = .ok (.bipush 10, 2) := by decide +kernel
theorem dX11_cut_52 : decode cX11_cut 52 = .ok (.if_icmp .eq 15, 3) := by decide +kernel
theorem dX11_cut_55 : decode cX11_cut 55 = .ok (.iload_n 2, 1) := by decide +kernel
theorem dX11_cut_56 : decode cX11_cut 56 = .ok (.bipush 13, 2) := by decide +kernel
theorem dX11_cut_58 : decode cX11_cut 58 = .ok (.if_icmp .eq 9, 3) := by decide +kernel
theorem dX11_cut_61 : decode cX11_cut 61 = .ok (.iload_n 2, 1) := by decide +kernel
theorem dX11_cut_62 : decode cX11_cut 62 = .ok (.bipush 32, 2) := by decide +kernel
theorem dX11_cut_64 : decode cX11_cut 64 = .ok (.if_icmp .ne 9, 3) := by decide +kernel
theorem dX11_cut_67 : decode cX11_cut 67 = .ok (.iinc 1 1, 3) := by decide +kernel
theorem dX11_cut_70 : decode cX11_cut 70 = .ok (.goto 221, 3) := by decide +kernel
theorem dX11_cut_73 : decode cX11_cut 73 = .ok (.iload_n 2, 1) := by decide +kernel
theorem dX11_cut_74 : decode cX11_cut 74 = .ok (.invokestatic 195, 3) := by decide +kernel
theorem dX11_cut_77 : decode cX11_cut 77 = .ok (.ifCond .eq 119, 3) := by decide +kernel
theorem dX11_cut_80 : decode cX11_cut 80 = .ok (.iconst 0, 1) := by decide +kernel
theorem dX11_cut_81 : decode cX11_cut 81 = .ok (.istore_n 3, 1) := by decide +kernel
theorem dX11_cut_82 : decode cX11_cut 82 = .ok (.lconst 0, 1) := by decide +kernel
theorem dX11_cut_83 : decode cX11_cut 83 = .ok (.lstore 4, 2) := by decide +kernel
theorem dX11_cut_85 : decode cX11_cut 85 = .ok (.aload_n 0, 1) := by decide +kernel
theorem dX11_cut_86 : decode cX11_cut 86 = .ok (.iload_n 1, 1) := by decide +kernel
theorem dX11_cut_87 : decode cX11_cut 87 = .ok (.iload_n 3, 1) := by decide +kernel
theorem dX11_cut_88 : decode cX11_cut 88 = .ok (.iadd, 1) := by decide +kernel
theorem dX11_cut_89 : decode cX11_cut 89 = .ok (.invokevirtual 187, 3) := by decide +kernel
theorem dX11_cut_92 : decode cX11_cut 92 = .ok (.invokestatic 195, 3) := by decide +kernel
theorem dX11_cut_95 : decode cX11_cut 95 = .ok (.ifCond .eq 29, 3) := by decide +kernel
theorem dX11_cut_98 : decode cX11_cut 98 = .ok (.iload_n 3, 1) := by decide +kernel
theorem dX11_cut_99 : decode cX11_cut 99 = .ok (.bipush 8, 2) := by decide +kernel
theorem dX11_cut_101 : decode cX11_cut 101 = .ok (.if_icmp .ge 17, 3) := by decide +kernel
theorem dX11_cut_104 : decode cX11_cut 104 = .ok (.lload 4, 2) := by decide +kernel
theorem dX11_cut_106 : decode cX11_cut 106 = .ok (.aload_n 0, 1) := by decide +kernel
theorem dX11_cut_107 : decode cX11_cut 107 = .ok (.iload_n 1, 1) := by decide +kernel
theorem dX11_cut_108 : decode cX11_cut 108 = .ok (.iload_n 3, 1) := by decide +kernel
theorem dX11_cut_109 : decode cX11_cut 109 = .ok (.iadd, 1) := by decide +kernel
theorem dX11_cut_110 : decode cX11_cut 110 = .ok (.invokevirtual 187, 3) := by decide +kernel
theorem dX11_cut_113 : decode cX11_cut 113 = .ok (.invokestatic 180, 3) := by decide +kernel
theorem dX11_cut_116 : decode cX11_cut 116 = .ok (.lstore 4, 2) := by decide +kernel
theorem dX11_cut_118 : decode cX11_cut 118 = .ok (.iinc 3 1, 3) := by decide +kernel
theorem dX11_cut_121 : decode cX11_cut 121 = .ok (.goto (-36), 3) := by decide +kernel
theorem dX11_cut_124 : decode cX11_cut 124 = .ok (.iload_n 3, 1) := by decide +kernel
theorem dX11_cut_125 : decode cX11_cut 125 = .ok (.bipush 8, 2) := by decide +kernel
theorem dX11_cut_127 : decode cX11_cut 127 = .ok (.if_icmp .le 7, 3) := by decide +kernel
theorem dX11_cut_130 : decode cX11_cut 130 = .ok (.iconst 3, 1) := by decide +kernel
theorem dX11_cut_131 : decode cX11_cut 131 = .ok (.goto 4, 3) := by decide +kernel
theorem dX11_cut_134 : decode cX11_cut 134 = .ok (.iconst 1, 1) := by decide +kernel
theorem dX11_cut_135 : decode cX11_cut 135 = .ok (.istore 6, 2) := by decide +kernel
theorem dX11_cut_137 : decode cX11_cut 137 = .ok (.iload_n 3, 1) := by decide +kernel
theorem dX11_cut_138 : decode cX11_cut 138 = .ok (.bipush 8, 2) := by decide +kernel
theorem dX11_cut_140 : decode cX11_cut 140 = .ok (.if_icmp .gt 39, 3) := by decide +kernel
theorem dX11_cut_143 : decode cX11_cut 143 = .ok (.iconst 0, 1) := by decide +kernel
theorem dX11_cut_144 : decode cX11_cut 144 = .ok (.istore 7, 2) := by decide +kernel
theorem dX11_cut_146 : decode cX11_cut 146 = .ok (.iload 7, 2) := by decide +kernel
theorem dX11_cut_148 : decode cX11_cut 148 = .ok (.bipush 21, 2) := by decide +kernel
theorem dX11_cut_150 : decode cX11_cut 150 = .ok (.if_icmp .ge 29, 3) := by decide +kernel
theorem dX11_cut_153 : decode cX11_cut 153 = .ok (.aload_n 0, 1) := by decide +kernel
theorem dX11_cut_154 : decode cX11_cut 154 = .ok (.getfield 34, 3) := by decide +kernel
theorem dX11_cut_157 : decode cX11_cut 157 = .ok (.iload 7, 2) := by decide +kernel
theorem dX11_cut_159 : decode cX11_cut 159 = .ok (.laload, 1) := by decide +kernel
theorem dX11_cut_160 : decode cX11_cut 160 = .ok (.lload 4, 2) := by decide +kernel
theorem dX11_cut_162 : decode cX11_cut 162 = .ok (.lcmp, 1) := by decide +kernel
theorem dX11_cut_163 : decode cX11_cut 163 = .ok (.ifCond .ne 10, 3) := by decide +kernel
theorem dX11_cut_166 : decode cX11_cut 166 = .ok (.bipush 20, 2) := by decide +kernel
theorem dX11_cut_168 : decode cX11_cut 168 = .ok (.iload 7, 2) := by decide +kernel
theorem dX11_cut_170 : decode cX11_cut 170 = .ok (.iadd, 1) := by decide +kernel
theorem dX11_cut_171 : decode cX11_cut 171 = .ok (.istore 6, 2) := by decide +kernel
theorem dX11_cut_173 : decode cX11_cut 173 = .ok (.iinc 7 1, 3) := by decide +kernel
theorem dX11_cut_176 : decode cX11_cut 176 = .ok (.goto (-30), 3) := by decide +kernel
theorem dX11_cut_179 : decode cX11_cut 179 = .ok (.aload_n 0, 1) := by decide +kernel
theorem dX11_cut_180 : decode cX11_cut 180 = .ok (.iload 6, 2) := by decide +kernel
theorem dX11_cut_182 : decode cX11_cut 182 = .ok (.iload_n 1, 1) := by decide +kernel
theorem dX11_cut_183 : decode cX11_cut 183 = .ok (.iconst 0, 1) := by decide +kernel
theorem dX11_cut_184 : decode cX11_cut 184 = .ok (.lload 4, 2) := by decide +kernel
theorem dX11_cut_186 : decode cX11_cut 186 = .ok (.invokevirtual 191, 3) := by decide +kernel
theorem dX11_cut_189 : decode cX11_cut 189 = .ok (.iload_n 1, 1) := by decide +kernel
theorem dX11_cut_190 : decode cX11_cut 190 = .ok (.iload_n 3, 1) := by decide +kernel
theorem dX11_cut_191 : decode cX11_cut 191 = .ok (.iadd, 1) := by decide +kernel
theorem dX11_cut_192 : decode cX11_cut 192 = .ok (.istore_n 1, 1) := by decide +kernel
theorem dX11_cut_193 : decode cX11_cut 193 = .ok (.goto 98, 3) := by decide +kernel
theorem dX11_cut_196 : decode cX11_cut 196 = .ok (.iload_n 2, 1) := by decide +kernel
theorem dX11_cut_197 : decode cX11_cut 197 = .ok (.invokestatic 199, 3) := by decide +kernel
theorem dX11_cut_200 : decode cX11_cut 200 = .ok (.ifCond .eq 75, 3) := by decide +kernel
theorem dX11_cut_203 : decode cX11_cut 203 = .ok (.iconst 0, 1) := by decide +kernel
theorem dX11_cut_204 : decode cX11_cut 204 = .ok (.istore_n 3, 1) := by decide +kernel
theorem dX11_cut_205 : decode cX11_cut 205 = .ok (.iconst 0, 1) := by decide +kernel
theorem dX11_cut_206 : decode cX11_cut 206 = .ok (.istore 4, 2) := by decide +kernel
theorem dX11_cut_208 : decode cX11_cut 208 = .ok (.aload_n 0, 1) := by decide +kernel
theorem dX11_cut_209 : decode cX11_cut 209 = .ok (.iload_n 1, 1) := by decide +kernel
theorem dX11_cut_210 : decode cX11_cut 210 = .ok (.iload_n 3, 1) := by decide +kernel
theorem dX11_cut_211 : decode cX11_cut 211 = .ok (.iadd, 1) := by decide +kernel
theorem dX11_cut_212 : decode cX11_cut 212 = .ok (.invokevirtual 187, 3) := by decide +kernel
theorem dX11_cut_215 : decode cX11_cut 215 = .ok (.invokestatic 199, 3) := by decide +kernel
theorem dX11_cut_218 : decode cX11_cut 218 = .ok (.ifCond .eq 32, 3) := by decide +kernel
theorem dX11_cut_221 : decode cX11_cut 221 = .ok (.iload_n 3, 1) := by decide +kernel
theorem dX11_cut_222 : decode cX11_cut 222 = .ok (.iconst 4, 1) := by decide +kernel
theorem dX11_cut_223 : decode cX11_cut 223 = .ok (.if_icmp .ge 21, 3) := by decide +kernel
theorem dX11_cut_226 : decode cX11_cut 226 = .ok (.bipush 10, 2) := by decide +kernel
theorem dX11_cut_228 : decode cX11_cut 228 = .ok (.iload 4, 2) := by decide +kernel
theorem dX11_cut_230 : decode cX11_cut 230 = .ok (.imul, 1) := by decide +kernel
theorem dX11_cut_231 : decode cX11_cut 231 = .ok (.aload_n 0, 1) := by decide +kernel
theorem dX11_cut_232 : decode cX11_cut 232 = .ok (.iload_n 1, 1) := by decide +kernel
theorem dX11_cut_233 : decode cX11_cut 233 = .ok (.iload_n 3, 1) := by decide +kernel
theorem dX11_cut_234 : decode cX11_cut 234 = .ok (.iadd, 1) := by decide +kernel
theorem dX11_cut_235 : decode cX11_cut 235 = .ok (.invokevirtual 187, 3) := by decide +kernel
theorem dX11_cut_238 : decode cX11_cut 238 = .ok (.iadd, 1) := by decide +kernel
theorem dX11_cut_239 : decode cX11_cut 239 = .ok (.bipush 48, 2) := by decide +kernel
theorem dX11_cut_241 : decode cX11_cut 241 = .ok (.isub, 1) := by decide +kernel
theorem dX11_cut_242 : decode cX11_cut 242 = .ok (.istore 4, 2) := by decide +kernel
theorem dX11_cut_244 : decode cX11_cut 244 = .ok (.iinc 3 1, 3) := by decide +kernel
theorem dX11_cut_247 : decode cX11_cut 247 = .ok (.goto (-39), 3) := by decide +kernel
theorem dX11_cut_250 : decode cX11_cut 250 = .ok (.aload_n 0, 1) := by decide +kernel
theorem dX11_cut_251 : decode cX11_cut 251 = .ok (.iload_n 3, 1) := by decide +kernel
theorem dX11_cut_252 : decode cX11_cut 252 = .ok (.iconst 4, 1) := by decide +kernel
theorem dX11_cut_253 : decode cX11_cut 253 = .ok (.if_icmp .le 7, 3) := by decide +kernel
theorem dX11_cut_256 : decode cX11_cut 256 = .ok (.iconst 3, 1) := by decide +kernel
theorem dX11_cut_257 : decode cX11_cut 257 = .ok (.goto 4, 3) := by decide +kernel
theorem dX11_cut_260 : decode cX11_cut 260 = .ok (.iconst 2, 1) := by decide +kernel
theorem dX11_cut_261 : decode cX11_cut 261 = .ok (.iload_n 1, 1) := by decide +kernel
theorem dX11_cut_262 : decode cX11_cut 262 = .ok (.iload 4, 2) := by decide +kernel
theorem dX11_cut_264 : decode cX11_cut 264 = .ok (.lconst 0, 1) := by decide +kernel
theorem dX11_cut_265 : decode cX11_cut 265 = .ok (.invokevirtual 191, 3) := by decide +kernel
theorem dX11_cut_268 : decode cX11_cut 268 = .ok (.iload_n 1, 1) := by decide +kernel
theorem dX11_cut_269 : decode cX11_cut 269 = .ok (.iload_n 3, 1) := by decide +kernel
theorem dX11_cut_270 : decode cX11_cut 270 = .ok (.iadd, 1) := by decide +kernel
theorem dX11_cut_271 : decode cX11_cut 271 = .ok (.istore_n 1, 1) := by decide +kernel
theorem dX11_cut_272 : decode cX11_cut 272 = .ok (.goto 19, 3) := by decide +kernel
theorem dX11_cut_275 : decode cX11_cut 275 = .ok (.iload_n 1, 1) := by decide +kernel
theorem dX11_cut_276 : decode cX11_cut 276 = .ok (.aload_n 0, 1) := by decide +kernel
theorem dX11_cut_277 : decode cX11_cut 277 = .ok (.iload_n 1, 1) := by decide +kernel
theorem dX11_cut_278 : decode cX11_cut 278 = .ok (.iload_n 2, 1) := by decide +kernel
theorem dX11_cut_279 : decode cX11_cut 279 = .ok (.aload_n 0, 1) := by decide +kernel
theorem dX11_cut_280 : decode cX11_cut 280 = .ok (.iload_n 1, 1) := by decide +kernel
theorem dX11_cut_281 : decode cX11_cut 281 = .ok (.iconst 1, 1) := by decide +kernel
theorem dX11_cut_282 : decode cX11_cut 282 = .ok (.iadd, 1) := by decide +kernel
theorem dX11_cut_283 : decode cX11_cut 283 = .ok (.invokevirtual 187, 3) := by decide +kernel
theorem dX11_cut_286 : decode cX11_cut 286 = .ok (.invokevirtual 202, 3) := by decide +kernel
theorem dX11_cut_289 : decode cX11_cut 289 = .ok (.iadd, 1) := by decide +kernel
theorem dX11_cut_290 : decode cX11_cut 290 = .ok (.istore_n 1, 1) := by decide +kernel
theorem dX11_cut_291 : decode cX11_cut 291 = .ok (.goto (-284), 3) := by decide +kernel
theorem dX11_cut_294 : decode cX11_cut 294 = .ok (.return_, 1) := by decide +kernel
theorem dX11_sign_0 : decode cX11_sign 0 = .ok (.iload_n 2, 1) := by decide +kernel
theorem dX11_sign_1 : decode cX11_sign 1 = .ok (.bipush 59, 2) := by decide +kernel
theorem dX11_sign_3 : decode cX11_sign 3 = .ok (.if_icmp .ne 7, 3) := by decide +kernel
theorem dX11_sign_6 : decode cX11_sign 6 = .ok (.iconst 4, 1) := by decide +kernel
theorem dX11_sign_7 : decode cX11_sign 7 = .ok (.goto 36, 3) := by decide +kernel
theorem dX11_sign_10 : decode cX11_sign 10 = .ok (.iload_n 2, 1) := by decide +kernel
theorem dX11_sign_11 : decode cX11_sign 11 = .ok (.bipush 61, 2) := by decide +kernel
theorem dX11_sign_13 : decode cX11_sign 13 = .ok (.if_icmp .ne 7, 3) := by decide +kernel
theorem dX11_sign_16 : decode cX11_sign 16 = .ok (.iconst 5, 1) := by decide +kernel
theorem dX11_sign_17 : decode cX11_sign 17 = .ok (.goto 26, 3) := by decide +kernel
theorem dX11_sign_20 : decode cX11_sign 20 = .ok (.iload_n 2, 1) := by decide +kernel
theorem dX11_sign_21 : decode cX11_sign 21 = .ok (.bipush 40, 2) := by decide +kernel
theorem dX11_sign_23 : decode cX11_sign 23 = .ok (.if_icmp .ne 8, 3) := by decide +kernel
theorem dX11_sign_26 : decode cX11_sign 26 = .ok (.bipush 6, 2) := by decide +kernel
theorem dX11_sign_28 : decode cX11_sign 28 = .ok (.goto 15, 3) := by decide +kernel
theorem dX11_sign_31 : decode cX11_sign 31 = .ok (.iload_n 2, 1) := by decide +kernel
theorem dX11_sign_32 : decode cX11_sign 32 = .ok (.bipush 41, 2) := by decide +kernel
theorem dX11_sign_34 : decode cX11_sign 34 = .ok (.if_icmp .ne 8, 3) := by decide +kernel
theorem dX11_sign_37 : decode cX11_sign 37 = .ok (.bipush 7, 2) := by decide +kernel
theorem dX11_sign_39 : decode cX11_sign 39 = .ok (.goto 4, 3) := by decide +kernel
theorem dX11_sign_42 : decode cX11_sign 42 = .ok (.iconst 3, 1) := by decide +kernel
theorem dX11_sign_43 : decode cX11_sign 43 = .ok (.istore 4, 2) := by decide +kernel
theorem dX11_sign_45 : decode cX11_sign 45 = .ok (.iload_n 2, 1) := by decide +kernel
theorem dX11_sign_46 : decode cX11_sign 46 = .ok (.bipush 43, 2) := by decide +kernel
theorem dX11_sign_48 : decode cX11_sign 48 = .ok (.if_icmp .ne 7, 3) := by decide +kernel
theorem dX11_sign_51 : decode cX11_sign 51 = .ok (.bipush 8, 2) := by decide +kernel
theorem dX11_sign_53 : decode cX11_sign 53 = .ok (.istore 4, 2) := by decide +kernel
theorem dX11_sign_55 : decode cX11_sign 55 = .ok (.iload_n 2, 1) := by decide +kernel
theorem dX11_sign_56 : decode cX11_sign 56 = .ok (.bipush 45, 2) := by decide +kernel
theorem dX11_sign_58 : decode cX11_sign 58 = .ok (.if_icmp .ne 7, 3) := by decide +kernel
theorem dX11_sign_61 : decode cX11_sign 61 = .ok (.bipush 9, 2) := by decide +kernel
theorem dX11_sign_63 : decode cX11_sign 63 = .ok (.istore 4, 2) := by decide +kernel
theorem dX11_sign_65 : decode cX11_sign 65 = .ok (.iload_n 2, 1) := by decide +kernel
theorem dX11_sign_66 : decode cX11_sign 66 = .ok (.bipush 42, 2) := by decide +kernel
theorem dX11_sign_68 : decode cX11_sign 68 = .ok (.if_icmp .ne 7, 3) := by decide +kernel
theorem dX11_sign_71 : decode cX11_sign 71 = .ok (.bipush 10, 2) := by decide +kernel
theorem dX11_sign_73 : decode cX11_sign 73 = .ok (.istore 4, 2) := by decide +kernel
theorem dX11_sign_75 : decode cX11_sign 75 = .ok (.iload_n 2, 1) := by decide +kernel
theorem dX11_sign_76 : decode cX11_sign 76 = .ok (.bipush 47, 2) := by decide +kernel
theorem dX11_sign_78 : decode cX11_sign 78 = .ok (.if_icmp .ne 7, 3) := by decide +kernel
theorem dX11_sign_81 : decode cX11_sign 81 = .ok (.bipush 15, 2) := by decide +kernel
theorem dX11_sign_83 : decode cX11_sign 83 = .ok (.istore 4, 2) := by decide +kernel
theorem dX11_sign_85 : decode cX11_sign 85 = .ok (.iload_n 2, 1) := by decide +kernel
theorem dX11_sign_86 : decode cX11_sign 86 = .ok (.bipush 60, 2) := by decide +kernel
theorem dX11_sign_88 : decode cX11_sign 88 = .ok (.if_icmp .ne 7, 3) := by decide +kernel
theorem dX11_sign_91 : decode cX11_sign 91 = .ok (.bipush 13, 2) := by decide +kernel
theorem dX11_sign_93 : decode cX11_sign 93 = .ok (.istore 4, 2) := by decide +kernel
theorem dX11_sign_95 : decode cX11_sign 95 = .ok (.aload_n 0, 1) := by decide +kernel
theorem dX11_sign_96 : decode cX11_sign 96 = .ok (.iload 4, 2) := by decide +kernel
theorem dX11_sign_98 : decode cX11_sign 98 = .ok (.iload_n 1, 1) := by decide +kernel
theorem dX11_sign_99 : decode cX11_sign 99 = .ok (.iconst 0, 1) := by decide +kernel
theorem dX11_sign_100 : decode cX11_sign 100 = .ok (.lconst 0, 1) := by decide +kernel
theorem dX11_sign_101 : decode cX11_sign 101 = .ok (.invokevirtual 191, 3) := by decide +kernel
theorem dX11_sign_104 : decode cX11_sign 104 = .ok (.iconst 1, 1) := by decide +kernel
theorem dX11_sign_105 : decode cX11_sign 105 = .ok (.ireturn, 1) := by decide +kernel
theorem dX11_is_0 : decode cX11_is 0 = .ok (.aload_n 0, 1) := by decide +kernel
theorem dX11_is_1 : decode cX11_is 1 = .ok (.getfield 206, 3) := by decide +kernel
