theorem dX11_is_4 : decode cX11_is 4 = .ok (.ifCond .ne 20, 3) := by decide +kernel
theorem dX11_is_7 : decode cX11_is 7 = .ok (.aload_n 0, 1) := by decide +kernel
theorem dX11_is_8 : decode cX11_is 8 = .ok (.getfield 20, 3) := by decide +kernel
theorem dX11_is_11 : decode cX11_is 11 = .ok (.aload_n 0, 1) := by decide +kernel
theorem dX11_is_12 : decode cX11_is 12 = .ok (.getfield 209, 3) := by decide +kernel
theorem dX11_is_15 : decode cX11_is 15 = .ok (.iaload, 1) := by decide +kernel
theorem dX11_is_16 : decode cX11_is 16 = .ok (.iload_n 1, 1) := by decide +kernel
theorem dX11_is_17 : decode cX11_is 17 = .ok (.if_icmp .ne 7, 3) := by decide +kernel
theorem dX11_is_20 : decode cX11_is 20 = .ok (.iconst 1, 1) := by decide +kernel
theorem dX11_is_21 : decode cX11_is 21 = .ok (.goto 4, 3) := by decide +kernel
theorem dX11_is_24 : decode cX11_is 24 = .ok (.iconst 0, 1) := by decide +kernel
theorem dX11_is_25 : decode cX11_is 25 = .ok (.ireturn, 1) := by decide +kernel
theorem dX11_fail_0 : decode cX11_fail 0 = .ok (.aload_n 0, 1) := by decide +kernel
theorem dX11_fail_1 : decode cX11_fail 1 = .ok (.getfield 206, 3) := by decide +kernel
theorem dX11_fail_4 : decode cX11_fail 4 = .ok (.ifCond .le 4, 3) := by decide +kernel
theorem dX11_fail_7 : decode cX11_fail 7 = .ok (.return_, 1) := by decide +kernel
theorem dX11_fail_8 : decode cX11_fail 8 = .ok (.aload_n 0, 1) := by decide +kernel
theorem dX11_fail_9 : decode cX11_fail 9 = .ok (.iload_n 1, 1) := by decide +kernel
theorem dX11_fail_10 : decode cX11_fail 10 = .ok (.putfield 206, 3) := by decide +kernel
theorem dX11_fail_13 : decode cX11_fail 13 = .ok (.aload_n 0, 1) := by decide +kernel
theorem dX11_fail_14 : decode cX11_fail 14 = .ok (.aload_n 0, 1) := by decide +kernel
theorem dX11_fail_15 : decode cX11_fail 15 = .ok (.getfield 24, 3) := by decide +kernel
theorem dX11_fail_18 : decode cX11_fail 18 = .ok (.aload_n 0, 1) := by decide +kernel
theorem dX11_fail_19 : decode cX11_fail 19 = .ok (.getfield 209, 3) := by decide +kernel
theorem dX11_fail_22 : decode cX11_fail 22 = .ok (.iaload, 1) := by decide +kernel
theorem dX11_fail_23 : decode cX11_fail 23 = .ok (.putfield 212, 3) := by decide +kernel
theorem dX11_fail_26 : decode cX11_fail 26 = .ok (.return_, 1) := by decide +kernel
theorem dX11_wrong_0 : decode cX11_wrong 0 = .ok (.aload_n 0, 1) := by decide +kernel
theorem dX11_wrong_1 : decode cX11_wrong 1 = .ok (.getfield 24, 3) := by decide +kernel
theorem dX11_wrong_4 : decode cX11_wrong 4 = .ok (.iload_n 2, 1) := by decide +kernel
theorem dX11_wrong_5 : decode cX11_wrong 5 = .ok (.iaload, 1) := by decide +kernel
theorem dX11_wrong_6 : decode cX11_wrong 6 = .ok (.istore_n 3, 1) := by decide +kernel
theorem dX11_wrong_7 : decode cX11_wrong 7 = .ok (.aload_n 0, 1) := by decide +kernel
theorem dX11_wrong_8 : decode cX11_wrong 8 = .ok (.getfield 206, 3) := by decide +kernel
theorem dX11_wrong_11 : decode cX11_wrong 11 = .ok (.ifCond .gt 34, 3) := by decide +kernel
theorem dX11_wrong_14 : decode cX11_wrong 14 = .ok (.aload_n 0, 1) := by decide +kernel
theorem dX11_wrong_15 : decode cX11_wrong 15 = .ok (.getfield 215, 3) := by decide +kernel
theorem dX11_wrong_18 : decode cX11_wrong 18 = .ok (.ifCond .eq 28, 3) := by decide +kernel
theorem dX11_wrong_21 : decode cX11_wrong 21 = .ok (.iload_n 3, 1) := by decide +kernel
theorem dX11_wrong_22 : decode cX11_wrong 22 = .ok (.aload_n 0, 1) := by decide +kernel
theorem dX11_wrong_23 : decode cX11_wrong 23 = .ok (.getfield 218, 3) := by decide +kernel
theorem dX11_wrong_26 : decode cX11_wrong 26 = .ok (.if_icmp .gt 19, 3) := by decide +kernel
theorem dX11_wrong_29 : decode cX11_wrong 29 = .ok (.iload_n 3, 1) := by decide +kernel
theorem dX11_wrong_30 : decode cX11_wrong 30 = .ok (.aload_n 0, 1) := by decide +kernel
theorem dX11_wrong_31 : decode cX11_wrong 31 = .ok (.getfield 218, 3) := by decide +kernel
theorem dX11_wrong_34 : decode cX11_wrong 34 = .ok (.if_icmp .ne 12, 3) := by decide +kernel
theorem dX11_wrong_37 : decode cX11_wrong 37 = .ok (.iload_n 1, 1) := by decide +kernel
theorem dX11_wrong_38 : decode cX11_wrong 38 = .ok (.aload_n 0, 1) := by decide +kernel
theorem dX11_wrong_39 : decode cX11_wrong 39 = .ok (.getfield 215, 3) := by decide +kernel
theorem dX11_wrong_42 : decode cX11_wrong 42 = .ok (.if_icmp .lt 4, 3) := by decide +kernel
theorem dX11_wrong_45 : decode cX11_wrong 45 = .ok (.return_, 1) := by decide +kernel
theorem dX11_wrong_46 : decode cX11_wrong 46 = .ok (.aload_n 0, 1) := by decide +kernel
theorem dX11_wrong_47 : decode cX11_wrong 47 = .ok (.iload_n 1, 1) := by decide +kernel
theorem dX11_wrong_48 : decode cX11_wrong 48 = .ok (.putfield 215, 3) := by decide +kernel
theorem dX11_wrong_51 : decode cX11_wrong 51 = .ok (.aload_n 0, 1) := by decide +kernel
theorem dX11_wrong_52 : decode cX11_wrong 52 = .ok (.iload_n 3, 1) := by decide +kernel
theorem dX11_wrong_53 : decode cX11_wrong 53 = .ok (.putfield 218, 3) := by decide +kernel
theorem dX11_wrong_56 : decode cX11_wrong 56 = .ok (.return_, 1) := by decide +kernel
theorem dX11_goesOn_0 : decode cX11_goesOn 0 = .ok (.aload_n 0, 1) := by decide +kernel
theorem dX11_goesOn_1 : decode cX11_goesOn 1 = .ok (.getfield 209, 3) := by decide +kernel
theorem dX11_goesOn_4 : decode cX11_goesOn 4 = .ok (.sipush 400, 3) := by decide +kernel
theorem dX11_goesOn_7 : decode cX11_goesOn 7 = .ok (.if_icmp .ne 11, 3) := by decide +kernel
theorem dX11_goesOn_10 : decode cX11_goesOn 10 = .ok (.aload_n 0, 1) := by decide +kernel
theorem dX11_goesOn_11 : decode cX11_goesOn 11 = .ok (.iconst 2, 1) := by decide +kernel
theorem dX11_goesOn_12 : decode cX11_goesOn 12 = .ok (.invokevirtual 221, 3) := by decide +kernel
theorem dX11_goesOn_15 : decode cX11_goesOn 15 = .ok (.goto 13, 3) := by decide +kernel
theorem dX11_goesOn_18 : decode cX11_goesOn 18 = .ok (.aload_n 0, 1) := by decide +kernel
theorem dX11_goesOn_19 : decode cX11_goesOn 19 = .ok (.dup, 1) := by decide +kernel
theorem dX11_goesOn_20 : decode cX11_goesOn 20 = .ok (.getfield 209, 3) := by decide +kernel
theorem dX11_goesOn_23 : decode cX11_goesOn 23 = .ok (.iconst 1, 1) := by decide +kernel
theorem dX11_goesOn_24 : decode cX11_goesOn 24 = .ok (.iadd, 1) := by decide +kernel
theorem dX11_goesOn_25 : decode cX11_goesOn 25 = .ok (.putfield 209, 3) := by decide +kernel
theorem dX11_goesOn_28 : decode cX11_goesOn 28 = .ok (.return_, 1) := by decide +kernel
theorem dX11_must_0 : decode cX11_must 0 = .ok (.aload_n 0, 1) := by decide +kernel
theorem dX11_must_1 : decode cX11_must 1 = .ok (.iload_n 1, 1) := by decide +kernel
theorem dX11_must_2 : decode cX11_must 2 = .ok (.invokevirtual 224, 3) := by decide +kernel
theorem dX11_must_5 : decode cX11_must 5 = .ok (.ifCond .eq 10, 3) := by decide +kernel
theorem dX11_must_8 : decode cX11_must 8 = .ok (.aload_n 0, 1) := by decide +kernel
theorem dX11_must_9 : decode cX11_must 9 = .ok (.invokevirtual 227, 3) := by decide +kernel
theorem dX11_must_12 : decode cX11_must 12 = .ok (.goto 8, 3) := by decide +kernel
theorem dX11_must_15 : decode cX11_must 15 = .ok (.aload_n 0, 1) := by decide +kernel
theorem dX11_must_16 : decode cX11_must 16 = .ok (.iconst 1, 1) := by decide +kernel
theorem dX11_must_17 : decode cX11_must 17 = .ok (.invokevirtual 221, 3) := by decide +kernel
theorem dX11_must_20 : decode cX11_must 20 = .ok (.return_, 1) := by decide +kernel
theorem dX11_plain_0 : decode cX11_plain 0 = .ok (.aload_n 0, 1) := by decide +kernel
theorem dX11_plain_1 : decode cX11_plain 1 = .ok (.getfield 46, 3) := by decide +kernel
theorem dX11_plain_4 : decode cX11_plain 4 = .ok (.iload_n 1, 1) := by decide +kernel
theorem dX11_plain_5 : decode cX11_plain 5 = .ok (.iconst 0, 1) := by decide +kernel
theorem dX11_plain_6 : decode cX11_plain 6 = .ok (.iastore, 1) := by decide +kernel
theorem dX11_plain_7 : decode cX11_plain 7 = .ok (.aload_n 0, 1) := by decide +kernel
theorem dX11_plain_8 : decode cX11_plain 8 = .ok (.getfield 55, 3) := by decide +kernel
theorem dX11_plain_11 : decode cX11_plain 11 = .ok (.iload_n 1, 1) := by decide +kernel
theorem dX11_plain_12 : decode cX11_plain 12 = .ok (.iconst 0, 1) := by decide +kernel
theorem dX11_plain_13 : decode cX11_plain 13 = .ok (.iastore, 1) := by decide +kernel
theorem dX11_plain_14 : decode cX11_plain 14 = .ok (.aload_n 0, 1) := by decide +kernel
theorem dX11_plain_15 : decode cX11_plain 15 = .ok (.getfield 70, 3) := by decide +kernel
theorem dX11_plain_18 : decode cX11_plain 18 = .ok (.iload_n 1, 1) := by decide +kernel
theorem dX11_plain_19 : decode cX11_plain 19 = .ok (.iconst 0, 1) := by decide +kernel
theorem dX11_plain_20 : decode cX11_plain 20 = .ok (.iastore, 1) := by decide +kernel
theorem dX11_plain_21 : decode cX11_plain 21 = .ok (.aload_n 0, 1) := by decide +kernel
theorem dX11_plain_22 : decode cX11_plain 22 = .ok (.getfield 73, 3) := by decide +kernel
theorem dX11_plain_25 : decode cX11_plain 25 = .ok (.iload_n 1, 1) := by decide +kernel
theorem dX11_plain_26 : decode cX11_plain 26 = .ok (.bipush 100, 2) := by decide +kernel
theorem dX11_plain_28 : decode cX11_plain 28 = .ok (.iastore, 1) := by decide +kernel
theorem dX11_plain_29 : decode cX11_plain 29 = .ok (.aload_n 0, 1) := by decide +kernel
theorem dX11_plain_30 : decode cX11_plain 30 = .ok (.getfield 76, 3) := by decide +kernel
theorem dX11_plain_33 : decode cX11_plain 33 = .ok (.iload_n 1, 1) := by decide +kernel
theorem dX11_plain_34 : decode cX11_plain 34 = .ok (.iconst 0, 1) := by decide +kernel
theorem dX11_plain_35 : decode cX11_plain 35 = .ok (.iastore, 1) := by decide +kernel
theorem dX11_plain_36 : decode cX11_plain 36 = .ok (.iconst 0, 1) := by decide +kernel
theorem dX11_plain_37 : decode cX11_plain 37 = .ok (.istore_n 2, 1) := by decide +kernel
theorem dX11_plain_38 : decode cX11_plain 38 = .ok (.iload_n 2, 1) := by decide +kernel
theorem dX11_plain_39 : decode cX11_plain 39 = .ok (.bipush 7, 2) := by decide +kernel
theorem dX11_plain_41 : decode cX11_plain 41 = .ok (.if_icmp .ge 21, 3) := by decide +kernel
theorem dX11_plain_44 : decode cX11_plain 44 = .ok (.aload_n 0, 1) := by decide +kernel
theorem dX11_plain_45 : decode cX11_plain 45 = .ok (.getfield 67, 3) := by decide +kernel
theorem dX11_plain_48 : decode cX11_plain 48 = .ok (.bipush 7, 2) := by decide +kernel
theorem dX11_plain_50 : decode cX11_plain 50 = .ok (.iload_n 1, 1) := by decide +kernel
theorem dX11_plain_51 : decode cX11_plain 51 = .ok (.imul, 1) := by decide +kernel
theorem dX11_plain_52 : decode cX11_plain 52 = .ok (.iload_n 2, 1) := by decide +kernel
theorem dX11_plain_53 : decode cX11_plain 53 = .ok (.iadd, 1) := by decide +kernel
theorem dX11_plain_54 : decode cX11_plain 54 = .ok (.iconst 0, 1) := by decide +kernel
theorem dX11_plain_55 : decode cX11_plain 55 = .ok (.iastore, 1) := by decide +kernel
theorem dX11_plain_56 : decode cX11_plain 56 = .ok (.iinc 2 1, 3) := by decide +kernel
theorem dX11_plain_59 : decode cX11_plain 59 = .ok (.goto (-21), 3) := by decide +kernel
theorem dX11_plain_62 : decode cX11_plain 62 = .ok (.iconst 0, 1) := by decide +kernel
theorem dX11_plain_63 : decode cX11_plain 63 = .ok (.istore_n 2, 1) := by decide +kernel
theorem dX11_plain_64 : decode cX11_plain 64 = .ok (.iload_n 2, 1) := by decide +kernel
theorem dX11_plain_65 : decode cX11_plain 65 = .ok (.iconst 4, 1) := by decide +kernel
theorem dX11_plain_66 : decode cX11_plain 66 = .ok (.if_icmp .ge 31, 3) := by decide +kernel
theorem dX11_plain_69 : decode cX11_plain 69 = .ok (.aload_n 0, 1) := by decide +kernel
theorem dX11_plain_70 : decode cX11_plain 70 = .ok (.getfield 79, 3) := by decide +kernel
theorem dX11_plain_73 : decode cX11_plain 73 = .ok (.iconst 4, 1) := by decide +kernel
theorem dX11_plain_74 : decode cX11_plain 74 = .ok (.iload_n 1, 1) := by decide +kernel
theorem dX11_plain_75 : decode cX11_plain 75 = .ok (.imul, 1) := by decide +kernel
theorem dX11_plain_76 : decode cX11_plain 76 = .ok (.iload_n 2, 1) := by decide +kernel
theorem dX11_plain_77 : decode cX11_plain 77 = .ok (.iadd, 1) := by decide +kernel
theorem dX11_plain_78 : decode cX11_plain 78 = .ok (.iconst 0, 1) := by decide +kernel
theorem dX11_plain_79 : decode cX11_plain 79 = .ok (.iastore, 1) := by decide +kernel
theorem dX11_plain_80 : decode cX11_plain 80 = .ok (.aload_n 0, 1) := by decide +kernel
theorem dX11_plain_81 : decode cX11_plain 81 = .ok (.getfield 82, 3) := by decide +kernel
theorem dX11_plain_84 : decode cX11_plain 84 = .ok (.iconst 4, 1) := by decide +kernel
theorem dX11_plain_85 : decode cX11_plain 85 = .ok (.iload_n 1, 1) := by decide +kernel
theorem dX11_plain_86 : decode cX11_plain 86 = .ok (.imul, 1) := by decide +kernel
theorem dX11_plain_87 : decode cX11_plain 87 = .ok (.iload_n 2, 1) := by decide +kernel
theorem dX11_plain_88 : decode cX11_plain 88 = .ok (.iadd, 1) := by decide +kernel
theorem dX11_plain_89 : decode cX11_plain 89 = .ok (.iconst 0, 1) := by decide +kernel
theorem dX11_plain_90 : decode cX11_plain 90 = .ok (.iastore, 1) := by decide +kernel
theorem dX11_plain_91 : decode cX11_plain 91 = .ok (.iinc 2 1, 3) := by decide +kernel
theorem dX11_plain_94 : decode cX11_plain 94 = .ok (.goto (-30), 3) := by decide +kernel
theorem dX11_plain_97 : decode cX11_plain 97 = .ok (.return_, 1) := by decide +kernel
theorem dX11_read_0 : decode cX11_read 0 = .ok (.aload_n 0, 1) := by decide +kernel
theorem dX11_read_1 : decode cX11_read 1 = .ok (.aload_n 0, 1) := by decide +kernel
theorem dX11_read_2 : decode cX11_read 2 = .ok (.getfield 169, 3) := by decide +kernel
theorem dX11_read_5 : decode cX11_read 5 = .ok (.putfield 175, 3) := by decide +kernel
theorem dX11_read_8 : decode cX11_read 8 = .ok (.iconst 0, 1) := by decide +kernel
theorem dX11_read_9 : decode cX11_read 9 = .ok (.istore_n 1, 1) := by decide +kernel
theorem dX11_read_10 : decode cX11_read 10 = .ok (.iload_n 1, 1) := by decide +kernel
theorem dX11_read_11 : decode cX11_read 11 = .ok (.aload_n 0, 1) := by decide +kernel
theorem dX11_read_12 : decode cX11_read 12 = .ok (.getfield 175, 3) := by decide +kernel
theorem dX11_read_15 : decode cX11_read 15 = .ok (.if_icmp .ge 21, 3) := by decide +kernel
theorem dX11_read_18 : decode cX11_read 18 = .ok (.aload_n 0, 1) := by decide +kernel
theorem dX11_read_19 : decode cX11_read 19 = .ok (.getfield 17, 3) := by decide +kernel
theorem dX11_read_22 : decode cX11_read 22 = .ok (.iload_n 1, 1) := by decide +kernel
theorem dX11_read_23 : decode cX11_read 23 = .ok (.aload_n 0, 1) := by decide +kernel
theorem dX11_read_24 : decode cX11_read 24 = .ok (.getfield 13, 3) := by decide +kernel
theorem dX11_read_27 : decode cX11_read 27 = .ok (.iload_n 1, 1) := by decide +kernel
theorem dX11_read_28 : decode cX11_read 28 = .ok (.baload, 1) := by decide +kernel
theorem dX11_read_29 : decode cX11_read 29 = .ok (.bastore, 1) := by decide +kernel
theorem dX11_read_30 : decode cX11_read 30 = .ok (.iinc 1 1, 3) := by decide +kernel
theorem dX11_read_33 : decode cX11_read 33 = .ok (.goto (-23), 3) := by decide +kernel
theorem dX11_read_36 : decode cX11_read 36 = .ok (.aload_n 0, 1) := by decide +kernel
theorem dX11_read_37 : decode cX11_read 37 = .ok (.iconst 0, 1) := by decide +kernel
theorem dX11_read_38 : decode cX11_read 38 = .ok (.putfield 169, 3) := by decide +kernel
theorem dX11_read_41 : decode cX11_read 41 = .ok (.aload_n 0, 1) := by decide +kernel
theorem dX11_read_42 : decode cX11_read 42 = .ok (.invokevirtual 230, 3) := by decide +kernel
theorem dX11_read_45 : decode cX11_read 45 = .ok (.aload_n 0, 1) := by decide +kernel
theorem dX11_read_46 : decode cX11_read 46 = .ok (.iconst 0, 1) := by decide +kernel
theorem dX11_read_47 : decode cX11_read 47 = .ok (.putfield 209, 3) := by decide +kernel
theorem dX11_read_50 : decode cX11_read 50 = .ok (.aload_n 0, 1) := by decide +kernel
theorem dX11_read_51 : decode cX11_read 51 = .ok (.iconst 0, 1) := by decide +kernel
theorem dX11_read_52 : decode cX11_read 52 = .ok (.putfield 233, 3) := by decide +kernel
theorem dX11_read_55 : decode cX11_read 55 = .ok (.aload_n 0, 1) := by decide +kernel
theorem dX11_read_56 : decode cX11_read 56 = .ok (.iconst 0, 1) := by decide +kernel
theorem dX11_read_57 : decode cX11_read 57 = .ok (.putfield 206, 3) := by decide +kernel
theorem dX11_read_60 : decode cX11_read 60 = .ok (.aload_n 0, 1) := by decide +kernel
theorem dX11_read_61 : decode cX11_read 61 = .ok (.iconst 0, 1) := by decide +kernel
theorem dX11_read_62 : decode cX11_read 62 = .ok (.putfield 215, 3) := by decide +kernel
theorem dX11_read_65 : decode cX11_read 65 = .ok (.aload_n 0, 1) := by decide +kernel
theorem dX11_read_66 : decode cX11_read 66 = .ok (.iconst 1, 1) := by decide +kernel
theorem dX11_read_67 : decode cX11_read 67 = .ok (.aload_n 0, 1) := by decide +kernel
theorem dX11_read_68 : decode cX11_read 68 = .ok (.getfield 236, 3) := by decide +kernel
theorem dX11_read_71 : decode cX11_read 71 = .ok (.isub, 1) := by decide +kernel
theorem dX11_read_72 : decode cX11_read 72 = .ok (.putfield 239, 3) := by decide +kernel
theorem dX11_read_75 : decode cX11_read 75 = .ok (.aload_n 0, 1) := by decide +kernel
theorem dX11_read_76 : decode cX11_read 76 = .ok (.iconst 0, 1) := by decide +kernel
theorem dX11_read_77 : decode cX11_read 77 = .ok (.putfield 242, 3) := by decide +kernel
theorem dX11_read_80 : decode cX11_read 80 = .ok (.aload_n 0, 1) := by decide +kernel
theorem dX11_read_81 : decode cX11_read 81 = .ok (.aload_n 0, 1) := by decide +kernel
theorem dX11_read_82 : decode cX11_read 82 = .ok (.getfield 239, 3) := by decide +kernel
theorem dX11_read_85 : decode cX11_read 85 = .ok (.invokevirtual 155, 3) := by decide +kernel
theorem dX11_read_88 : decode cX11_read 88 = .ok (.aload_n 0, 1) := by decide +kernel
theorem dX11_read_89 : decode cX11_read 89 = .ok (.sipush 130, 3) := by decide +kernel
theorem dX11_read_92 : decode cX11_read 92 = .ok (.aload_n 0, 1) := by decide +kernel
theorem dX11_read_93 : decode cX11_read 93 = .ok (.getfield 239, 3) := by decide +kernel
theorem dX11_read_96 : decode cX11_read 96 = .ok (.imul, 1) := by decide +kernel
theorem dX11_read_97 : decode cX11_read 97 = .ok (.putfield 245, 3) := by decide +kernel
theorem dX11_read_100 : decode cX11_read 100 = .ok (.aload_n 0, 1) := by decide +kernel
theorem dX11_read_101 : decode cX11_read 101 = .ok (.sipush 420, 3) := by decide +kernel
theorem dX11_read_104 : decode cX11_read 104 = .ok (.aload_n 0, 1) := by decide +kernel
theorem dX11_read_105 : decode cX11_read 105 = .ok (.getfield 239, 3) := by decide +kernel
theorem dX11_read_108 : decode cX11_read 108 = .ok (.imul, 1) := by decide +kernel
theorem dX11_read_109 : decode cX11_read 109 = .ok (.putfield 248, 3) := by decide +kernel
theorem dX11_read_112 : decode cX11_read 112 = .ok (.aload_n 0, 1) := by decide +kernel
theorem dX11_read_113 : decode cX11_read 113 = .ok (.getfield 206, 3) := by decide +kernel
theorem dX11_read_116 : decode cX11_read 116 = .ok (.ifCond .ne 18, 3) := by decide +kernel
theorem dX11_read_119 : decode cX11_read 119 = .ok (.aload_n 0, 1) := by decide +kernel
theorem dX11_read_120 : decode cX11_read 120 = .ok (.iconst 0, 1) := by decide +kernel
theorem dX11_read_121 : decode cX11_read 121 = .ok (.invokevirtual 224, 3) := by decide +kernel
theorem dX11_read_124 : decode cX11_read 124 = .ok (.ifCond .ne 10, 3) := by decide +kernel
theorem dX11_read_127 : decode cX11_read 127 = .ok (.aload_n 0, 1) := by decide +kernel
theorem dX11_read_128 : decode cX11_read 128 = .ok (.invokevirtual 251, 3) := by decide +kernel
theorem dX11_read_131 : decode cX11_read 131 = .ok (.goto (-19), 3) := by decide +kernel
theorem dX11_read_134 : decode cX11_read 134 = .ok (.aload_n 0, 1) := by decide +kernel
theorem dX11_read_135 : decode cX11_read 135 = .ok (.aload_n 0, 1) := by decide +kernel
theorem dX11_read_136 : decode cX11_read 136 = .ok (.getfield 206, 3) := by decide +kernel
theorem dX11_read_139 : decode cX11_read 139 = .ok (.ifCond .le 10, 3) := by decide +kernel
theorem dX11_read_142 : decode cX11_read 142 = .ok (.aload_n 0, 1) := by decide +kernel
theorem dX11_read_143 : decode cX11_read 143 = .ok (.getfield 212, 3) := by decide +kernel
theorem dX11_read_146 : decode cX11_read 146 = .ok (.goto 18, 3) := by decide +kernel
theorem dX11_read_149 : decode cX11_read 149 = .ok (.aload_n 0, 1) := by decide +kernel
theorem dX11_read_150 : decode cX11_read 150 = .ok (.getfield 215, 3) := by decide +kernel
theorem dX11_read_153 : decode cX11_read 153 = .ok (.ifCond .le 10, 3) := by decide +kernel
theorem dX11_read_156 : decode cX11_read 156 = .ok (.aload_n 0, 1) := by decide +kernel
theorem dX11_read_157 : decode cX11_read 157 = .ok (.getfield 218, 3) := by decide +kernel
theorem dX11_read_160 : decode cX11_read 160 = .ok (.goto 4, 3) := by decide +kernel
theorem dX11_read_163 : decode cX11_read 163 = .ok (.iconst (-1), 1) := by decide +kernel
theorem dX11_read_164 : decode cX11_read 164 = .ok (.putfield 37, 3) := by decide +kernel
theorem dX11_read_167 : decode cX11_read 167 = .ok (.aload_n 0, 1) := by decide +kernel
theorem dX11_read_168 : decode cX11_read 168 = .ok (.getfield 206, 3) := by decide +kernel
theorem dX11_read_171 : decode cX11_read 171 = .ok (.ifCond .le 8, 3) := by decide +kernel
theorem dX11_read_174 : decode cX11_read 174 = .ok (.aload_n 0, 1) := by decide +kernel
theorem dX11_read_175 : decode cX11_read 175 = .ok (.getfield 206, 3) := by decide +kernel
theorem dX11_read_178 : decode cX11_read 178 = .ok (.ireturn, 1) := by decide +kernel
theorem dX11_read_179 : decode cX11_read 179 = .ok (.aload_n 0, 1) := by decide +kernel
theorem dX11_read_180 : decode cX11_read 180 = .ok (.getfield 215, 3) := by decide +kernel
theorem dX11_read_183 : decode cX11_read 183 = .ok (.ifCond .le 8, 3) := by decide +kernel
theorem dX11_read_186 : decode cX11_read 186 = .ok (.aload_n 0, 1) := by decide +kernel
theorem dX11_read_187 : decode cX11_read 187 = .ok (.getfield 215, 3) := by decide +kernel
theorem dX11_read_190 : decode cX11_read 190 = .ok (.ireturn, 1) := by decide +kernel
theorem dX11_read_191 : decode cX11_read 191 = .ok (.aload_n 0, 1) := by decide +kernel
theorem dX11_read_192 : decode cX11_read 192 = .ok (.aload_n 0, 1) := by decide +kernel
theorem dX11_read_193 : decode cX11_read 193 = .ok (.getfield 239, 3) := by decide +kernel
theorem dX11_read_196 : decode cX11_read 196 = .ok (.putfield 236, 3) := by decide +kernel
theorem dX11_read_199 : decode cX11_read 199 = .ok (.aload_n 0, 1) := by decide +kernel
theorem dX11_read_200 : decode cX11_read 200 = .ok (.invokevirtual 163, 3) := by decide +kernel
theorem dX11_read_203 : decode cX11_read 203 = .ok (.aload_n 0, 1) := by decide +kernel
theorem dX11_read_204 : decode cX11_read 204 = .ok (.invokevirtual 166, 3) := by decide +kernel
theorem dX11_read_207 : decode cX11_read 207 = .ok (.aload_n 0, 1) := by decide +kernel
theorem dX11_read_208 : decode cX11_read 208 = .ok (.iconst 0, 1) := by decide +kernel
theorem dX11_read_209 : decode cX11_read 209 = .ok (.putfield 254, 3) := by decide +kernel
theorem dX11_read_212 : decode cX11_read 212 = .ok (.aload_n 0, 1) := by decide +kernel
theorem dX11_read_213 : decode cX11_read 213 = .ok (.iconst 0, 1) := by decide +kernel
theorem dX11_read_214 : decode cX11_read 214 = .ok (.putfield 257, 3) := by decide +kernel
theorem dX11_read_217 : decode cX11_read 217 = .ok (.iconst 0, 1) := by decide +kernel
theorem dX11_read_218 : decode cX11_read 218 = .ok (.istore_n 1, 1) := by decide +kernel
theorem dX11_read_219 : decode cX11_read 219 = .ok (.iload_n 1, 1) := by decide +kernel
theorem dX11_read_220 : decode cX11_read 220 = .ok (.iconst 3, 1) := by decide +kernel
theorem dX11_read_221 : decode cX11_read 221 = .ok (.if_icmp .ge 16, 3) := by decide +kernel
theorem dX11_read_224 : decode cX11_read 224 = .ok (.aload_n 0, 1) := by decide +kernel
theorem dX11_read_225 : decode cX11_read 225 = .ok (.getfield 149, 3) := by decide +kernel
theorem dX11_read_228 : decode cX11_read 228 = .ok (.iload_n 1, 1) := by decide +kernel
theorem dX11_read_229 : decode cX11_read 229 = .ok (.iconst 0, 1) := by decide +kernel
theorem dX11_read_230 : decode cX11_read 230 = .ok (.bastore, 1) := by decide +kernel
theorem dX11_read_231 : decode cX11_read 231 = .ok (.iinc 1 1, 3) := by decide +kernel
theorem dX11_read_234 : decode cX11_read 234 = .ok (.goto (-15), 3) := by decide +kernel
theorem dX11_read_237 : decode cX11_read 237 = .ok (.iconst 0, 1) := by decide +kernel
theorem dX11_read_238 : decode cX11_read 238 = .ok (.ireturn, 1) := by decide +kernel
theorem dX11_place_0 : decode cX11_place 0 = .ok (.aload_n 0, 1) := by decide +kernel
theorem dX11_place_1 : decode cX11_place 1 = .ok (.getfield 37, 3) := by decide +kernel
theorem dX11_place_4 : decode cX11_place 4 = .ok (.ireturn, 1) := by decide +kernel
theorem dX11_roomFor_0 : decode cX11_roomFor 0 = .ok (.iload_n 1, 1) := by decide +kernel
theorem dX11_roomFor_1 : decode cX11_roomFor 1 = .ok (.iload_n 2, 1) := by decide +kernel
theorem dX11_roomFor_2 : decode cX11_roomFor 2 = .ok (.if_icmp .ne 8, 3) := by decide +kernel
theorem dX11_roomFor_5 : decode cX11_roomFor 5 = .ok (.aload_n 0, 1) := by decide +kernel
theorem dX11_roomFor_6 : decode cX11_roomFor 6 = .ok (.iconst 2, 1) := by decide +kernel
theorem dX11_roomFor_7 : decode cX11_roomFor 7 = .ok (.invokevirtual 221, 3) := by decide +kernel
theorem dX11_roomFor_10 : decode cX11_roomFor 10 = .ok (.aload_n 0, 1) := by decide +kernel
theorem dX11_roomFor_11 : decode cX11_roomFor 11 = .ok (.getfield 206, 3) := by decide +kernel
theorem dX11_roomFor_14 : decode cX11_roomFor 14 = .ok (.ifCond .ne 7, 3) := by decide +kernel
theorem dX11_roomFor_17 : decode cX11_roomFor 17 = .ok (.aload_n 0, 1) := by decide +kernel
theorem dX11_roomFor_18 : decode cX11_roomFor 18 = .ok (.invokevirtual 227, 3) := by decide +kernel
theorem dX11_roomFor_21 : decode cX11_roomFor 21 = .ok (.return_, 1) := by decide +kernel
theorem dX11_toldInt_0 : decode cX11_toldInt 0 = .ok (.aload_n 0, 1) := by decide +kernel
theorem dX11_toldInt_1 : decode cX11_toldInt 1 = .ok (.invokevirtual 227, 3) := by decide +kernel
theorem dX11_toldInt_4 : decode cX11_toldInt 4 = .ok (.aload_n 0, 1) := by decide +kernel
theorem dX11_toldInt_5 : decode cX11_toldInt 5 = .ok (.iload_n 1, 1) := by decide +kernel
theorem dX11_toldInt_6 : decode cX11_toldInt 6 = .ok (.iload_n 2, 1) := by decide +kernel
theorem dX11_toldInt_7 : decode cX11_toldInt 7 = .ok (.invokevirtual 260, 3) := by decide +kernel
theorem dX11_toldInt_10 : decode cX11_toldInt 10 = .ok (.istore_n 3, 1) := by decide +kernel
theorem dX11_toldInt_11 : decode cX11_toldInt 11 = .ok (.aload_n 0, 1) := by decide +kernel
theorem dX11_toldInt_12 : decode cX11_toldInt 12 = .ok (.iconst 4, 1) := by decide +kernel
theorem dX11_toldInt_13 : decode cX11_toldInt 13 = .ok (.invokevirtual 264, 3) := by decide +kernel
theorem dX11_toldInt_16 : decode cX11_toldInt 16 = .ok (.iload_n 3, 1) := by decide +kernel
theorem dX11_toldInt_17 : decode cX11_toldInt 17 = .ok (.ireturn, 1) := by decide +kernel
theorem dX11_tellOne_0 : decode cX11_tellOne 0 = .ok (.aload_n 0, 1) := by decide +kernel
theorem dX11_tellOne_1 : decode cX11_tellOne 1 = .ok (.getfield 20, 3) := by decide +kernel
theorem dX11_tellOne_4 : decode cX11_tellOne 4 = .ok (.aload_n 0, 1) := by decide +kernel
theorem dX11_tellOne_5 : decode cX11_tellOne 5 = .ok (.getfield 209, 3) := by decide +kernel
theorem dX11_tellOne_8 : decode cX11_tellOne 8 = .ok (.iaload, 1) := by decide +kernel
theorem dX11_tellOne_9 : decode cX11_tellOne 9 = .ok (.tableswitch 352 20 28 #[51, 158, 283, 352, 352, 352, 352, 312, 332], 51) := by decide +kernel
theorem dX11_tellOne_60 : decode cX11_tellOne 60 = .ok (.aload_n 0, 1) := by decide +kernel
theorem dX11_tellOne_61 : decode cX11_tellOne 61 = .ok (.aload_n 0, 1) := by decide +kernel
theorem dX11_tellOne_62 : decode cX11_tellOne 62 = .ok (.getfield 46, 3) := by decide +kernel
theorem dX11_tellOne_65 : decode cX11_tellOne 65 = .ok (.aload_n 0, 1) := by decide +kernel
theorem dX11_tellOne_66 : decode cX11_tellOne 66 = .ok (.getfield 239, 3) := by decide +kernel
theorem dX11_tellOne_69 : decode cX11_tellOne 69 = .ok (.iaload, 1) := by decide +kernel
theorem dX11_tellOne_70 : decode cX11_tellOne 70 = .ok (.iconst 4, 1) := by decide +kernel
theorem dX11_tellOne_71 : decode cX11_tellOne 71 = .ok (.invokevirtual 267, 3) := by decide +kernel
theorem dX11_tellOne_74 : decode cX11_tellOne 74 = .ok (.aload_n 0, 1) := by decide +kernel
theorem dX11_tellOne_75 : decode cX11_tellOne 75 = .ok (.getfield 206, 3) := by decide +kernel
theorem dX11_tellOne_78 : decode cX11_tellOne 78 = .ok (.ifCond .le 4, 3) := by decide +kernel
theorem dX11_tellOne_81 : decode cX11_tellOne 81 = .ok (.return_, 1) := by decide +kernel
theorem dX11_tellOne_82 : decode cX11_tellOne 82 = .ok (.iconst 4, 1) := by decide +kernel
theorem dX11_tellOne_83 : decode cX11_tellOne 83 = .ok (.aload_n 0, 1) := by decide +kernel
theorem dX11_tellOne_84 : decode cX11_tellOne 84 = .ok (.getfield 239, 3) := by decide +kernel
theorem dX11_tellOne_87 : decode cX11_tellOne 87 = .ok (.imul, 1) := by decide +kernel
theorem dX11_tellOne_88 : decode cX11_tellOne 88 = .ok (.aload_n 0, 1) := by decide +kernel
theorem dX11_tellOne_89 : decode cX11_tellOne 89 = .ok (.getfield 46, 3) := by decide +kernel
theorem dX11_tellOne_92 : decode cX11_tellOne 92 = .ok (.aload_n 0, 1) := by decide +kernel
theorem dX11_tellOne_93 : decode cX11_tellOne 93 = .ok (.getfield 239, 3) := by decide +kernel
theorem dX11_tellOne_96 : decode cX11_tellOne 96 = .ok (.iaload, 1) := by decide +kernel
theorem dX11_tellOne_97 : decode cX11_tellOne 97 = .ok (.iadd, 1) := by decide +kernel
theorem dX11_tellOne_98 : decode cX11_tellOne 98 = .ok (.istore_n 1, 1) := by decide +kernel
theorem dX11_tellOne_99 : decode cX11_tellOne 99 = .ok (.aload_n 0, 1) := by decide +kernel
theorem dX11_tellOne_100 : decode cX11_tellOne 100 = .ok (.invokevirtual 271, 3) := by decide +kernel
theorem dX11_tellOne_103 : decode cX11_tellOne 103 = .ok (.istore_n 2, 1) := by decide +kernel
theorem dX11_tellOne_104 : decode cX11_tellOne 104 = .ok (.aload_n 0, 1) := by decide +kernel
theorem dX11_tellOne_105 : decode cX11_tellOne 105 = .ok (.getfield 49, 3) := by decide +kernel
theorem dX11_tellOne_108 : decode cX11_tellOne 108 = .ok (.iload_n 1, 1) := by decide +kernel
theorem dX11_tellOne_109 : decode cX11_tellOne 109 = .ok (.aload_n 0, 1) := by decide +kernel
theorem dX11_tellOne_110 : decode cX11_tellOne 110 = .ok (.iconst 1, 1) := by decide +kernel
theorem dX11_tellOne_111 : decode cX11_tellOne 111 = .ok (.bipush 24, 2) := by decide +kernel
theorem dX11_tellOne_113 : decode cX11_tellOne 113 = .ok (.invokevirtual 260, 3) := by decide +kernel
theorem dX11_tellOne_116 : decode cX11_tellOne 116 = .ok (.iastore, 1) := by decide +kernel
theorem dX11_tellOne_117 : decode cX11_tellOne 117 = .ok (.aload_n 0, 1) := by decide +kernel
theorem dX11_tellOne_118 : decode cX11_tellOne 118 = .ok (.getfield 52, 3) := by decide +kernel
theorem dX11_tellOne_121 : decode cX11_tellOne 121 = .ok (.iload_n 1, 1) := by decide +kernel
theorem dX11_tellOne_122 : decode cX11_tellOne 122 = .ok (.aload_n 0, 1) := by decide +kernel
theorem dX11_tellOne_123 : decode cX11_tellOne 123 = .ok (.iconst 0, 1) := by decide +kernel
theorem dX11_tellOne_124 : decode cX11_tellOne 124 = .ok (.bipush 99, 2) := by decide +kernel
theorem dX11_tellOne_126 : decode cX11_tellOne 126 = .ok (.invokevirtual 260, 3) := by decide +kernel
theorem dX11_tellOne_129 : decode cX11_tellOne 129 = .ok (.iastore, 1) := by decide +kernel
theorem dX11_tellOne_130 : decode cX11_tellOne 130 = .ok (.aload_n 0, 1) := by decide +kernel
theorem dX11_tellOne_131 : decode cX11_tellOne 131 = .ok (.iload_n 2, 1) := by decide +kernel
theorem dX11_tellOne_132 : decode cX11_tellOne 132 = .ok (.aload_n 0, 1) := by decide +kernel
theorem dX11_tellOne_133 : decode cX11_tellOne 133 = .ok (.getfield 46, 3) := by decide +kernel
theorem dX11_tellOne_136 : decode cX11_tellOne 136 = .ok (.aload_n 0, 1) := by decide +kernel
theorem dX11_tellOne_137 : decode cX11_tellOne 137 = .ok (.getfield 239, 3) := by decide +kernel
theorem dX11_tellOne_140 : decode cX11_tellOne 140 = .ok (.iaload, 1) := by decide +kernel
theorem dX11_tellOne_141 : decode cX11_tellOne 141 = .ok (.invokevirtual 275, 3) := by decide +kernel
theorem dX11_tellOne_144 : decode cX11_tellOne 144 = .ok (.aload_n 0, 1) := by decide +kernel
theorem dX11_tellOne_145 : decode cX11_tellOne 145 = .ok (.getfield 206, 3) := by decide +kernel
theorem dX11_tellOne_148 : decode cX11_tellOne 148 = .ok (.ifCond .ne 266, 3) := by decide +kernel
theorem dX11_tellOne_151 : decode cX11_tellOne 151 = .ok (.aload_n 0, 1) := by decide +kernel
theorem dX11_tellOne_152 : decode cX11_tellOne 152 = .ok (.getfield 46, 3) := by decide +kernel
theorem dX11_tellOne_155 : decode cX11_tellOne 155 = .ok (.aload_n 0, 1) := by decide +kernel
theorem dX11_tellOne_156 : decode cX11_tellOne 156 = .ok (.getfield 239, 3) := by decide +kernel
theorem dX11_tellOne_159 : decode cX11_tellOne 159 = .ok (.dup2, 1) := by decide +kernel
theorem dX11_tellOne_160 : decode cX11_tellOne 160 = .ok (.iaload, 1) := by decide +kernel
theorem dX11_tellOne_161 : decode cX11_tellOne 161 = .ok (.iconst 1, 1) := by decide +kernel
theorem dX11_tellOne_162 : decode cX11_tellOne 162 = .ok (.iadd, 1) := by decide +kernel
theorem dX11_tellOne_163 : decode cX11_tellOne 163 = .ok (.iastore, 1) := by decide +kernel
theorem dX11_tellOne_164 : decode cX11_tellOne 164 = .ok (.goto 250, 3) := by decide +kernel
theorem dX11_tellOne_167 : decode cX11_tellOne 167 = .ok (.aload_n 0, 1) := by decide +kernel
theorem dX11_tellOne_168 : decode cX11_tellOne 168 = .ok (.aload_n 0, 1) := by decide +kernel
theorem dX11_tellOne_169 : decode cX11_tellOne 169 = .ok (.getfield 55, 3) := by decide +kernel
theorem dX11_tellOne_172 : decode cX11_tellOne 172 = .ok (.aload_n 0, 1) := by decide +kernel
theorem dX11_tellOne_173 : decode cX11_tellOne 173 = .ok (.getfield 239, 3) := by decide +kernel
theorem dX11_tellOne_176 : decode cX11_tellOne 176 = .ok (.iaload, 1) := by decide +kernel
theorem dX11_tellOne_177 : decode cX11_tellOne 177 = .ok (.bipush 7, 2) := by decide +kernel
theorem dX11_tellOne_179 : decode cX11_tellOne 179 = .ok (.invokevirtual 267, 3) := by decide +kernel
theorem dX11_tellOne_182 : decode cX11_tellOne 182 = .ok (.aload_n 0, 1) := by decide +kernel
theorem dX11_tellOne_183 : decode cX11_tellOne 183 = .ok (.getfield 206, 3) := by decide +kernel
theorem dX11_tellOne_186 : decode cX11_tellOne 186 = .ok (.ifCond .le 4, 3) := by decide +kernel
theorem dX11_tellOne_189 : decode cX11_tellOne 189 = .ok (.return_, 1) := by decide +kernel
theorem dX11_tellOne_190 : decode cX11_tellOne 190 = .ok (.bipush 7, 2) := by decide +kernel
theorem dX11_tellOne_192 : decode cX11_tellOne 192 = .ok (.aload_n 0, 1) := by decide +kernel
theorem dX11_tellOne_193 : decode cX11_tellOne 193 = .ok (.getfield 239, 3) := by decide +kernel
theorem dX11_tellOne_196 : decode cX11_tellOne 196 = .ok (.imul, 1) := by decide +kernel
theorem dX11_tellOne_197 : decode cX11_tellOne 197 = .ok (.aload_n 0, 1) := by decide +kernel
theorem dX11_tellOne_198 : decode cX11_tellOne 198 = .ok (.getfield 55, 3) := by decide +kernel
theorem dX11_tellOne_201 : decode cX11_tellOne 201 = .ok (.aload_n 0, 1) := by decide +kernel
theorem dX11_tellOne_202 : decode cX11_tellOne 202 = .ok (.getfield 239, 3) := by decide +kernel
theorem dX11_tellOne_205 : decode cX11_tellOne 205 = .ok (.iaload, 1) := by decide +kernel
theorem dX11_tellOne_206 : decode cX11_tellOne 206 = .ok (.iadd, 1) := by decide +kernel
theorem dX11_tellOne_207 : decode cX11_tellOne 207 = .ok (.istore_n 1, 1) := by decide +kernel
theorem dX11_tellOne_208 : decode cX11_tellOne 208 = .ok (.aload_n 0, 1) := by decide +kernel
theorem dX11_tellOne_209 : decode cX11_tellOne 209 = .ok (.invokevirtual 271, 3) := by decide +kernel
theorem dX11_tellOne_212 : decode cX11_tellOne 212 = .ok (.istore_n 2, 1) := by decide +kernel
theorem dX11_tellOne_213 : decode cX11_tellOne 213 = .ok (.aload_n 0, 1) := by decide +kernel
theorem dX11_tellOne_214 : decode cX11_tellOne 214 = .ok (.getfield 58, 3) := by decide +kernel
theorem dX11_tellOne_217 : decode cX11_tellOne 217 = .ok (.iload_n 1, 1) := by decide +kernel
theorem dX11_tellOne_218 : decode cX11_tellOne 218 = .ok (.aload_n 0, 1) := by decide +kernel
theorem dX11_tellOne_219 : decode cX11_tellOne 219 = .ok (.iconst 0, 1) := by decide +kernel
theorem dX11_tellOne_220 : decode cX11_tellOne 220 = .ok (.bipush 23, 2) := by decide +kernel
theorem dX11_tellOne_222 : decode cX11_tellOne 222 = .ok (.invokevirtual 260, 3) := by decide +kernel
theorem dX11_tellOne_225 : decode cX11_tellOne 225 = .ok (.iastore, 1) := by decide +kernel
theorem dX11_tellOne_226 : decode cX11_tellOne 226 = .ok (.aload_n 0, 1) := by decide +kernel
theorem dX11_tellOne_227 : decode cX11_tellOne 227 = .ok (.getfield 61, 3) := by decide +kernel
theorem dX11_tellOne_230 : decode cX11_tellOne 230 = .ok (.iload_n 1, 1) := by decide +kernel
theorem dX11_tellOne_231 : decode cX11_tellOne 231 = .ok (.aload_n 0, 1) := by decide +kernel
theorem dX11_tellOne_232 : decode cX11_tellOne 232 = .ok (.iconst 1, 1) := by decide +kernel
theorem dX11_tellOne_233 : decode cX11_tellOne 233 = .ok (.bipush 12, 2) := by decide +kernel
theorem dX11_tellOne_235 : decode cX11_tellOne 235 = .ok (.invokevirtual 260, 3) := by decide +kernel
theorem dX11_tellOne_238 : decode cX11_tellOne 238 = .ok (.iastore, 1) := by decide +kernel
theorem dX11_tellOne_239 : decode cX11_tellOne 239 = .ok (.aload_n 0, 1) := by decide +kernel
theorem dX11_tellOne_240 : decode cX11_tellOne 240 = .ok (.getfield 64, 3) := by decide +kernel
theorem dX11_tellOne_243 : decode cX11_tellOne 243 = .ok (.iload_n 1, 1) := by decide +kernel
theorem dX11_tellOne_244 : decode cX11_tellOne 244 = .ok (.aload_n 0, 1) := by decide +kernel
theorem dX11_tellOne_245 : decode cX11_tellOne 245 = .ok (.iconst 0, 1) := by decide +kernel
theorem dX11_tellOne_246 : decode cX11_tellOne 246 = .ok (.bipush 99, 2) := by decide +kernel
theorem dX11_tellOne_248 : decode cX11_tellOne 248 = .ok (.invokevirtual 260, 3) := by decide +kernel
theorem dX11_tellOne_251 : decode cX11_tellOne 251 = .ok (.iastore, 1) := by decide +kernel
theorem dX11_tellOne_252 : decode cX11_tellOne 252 = .ok (.aload_n 0, 1) := by decide +kernel
theorem dX11_tellOne_253 : decode cX11_tellOne 253 = .ok (.iload_n 2, 1) := by decide +kernel
theorem dX11_tellOne_254 : decode cX11_tellOne 254 = .ok (.bipush 10, 2) := by decide +kernel
theorem dX11_tellOne_256 : decode cX11_tellOne 256 = .ok (.aload_n 0, 1) := by decide +kernel
theorem dX11_tellOne_257 : decode cX11_tellOne 257 = .ok (.getfield 55, 3) := by decide +kernel
theorem dX11_tellOne_260 : decode cX11_tellOne 260 = .ok (.aload_n 0, 1) := by decide +kernel
theorem dX11_tellOne_261 : decode cX11_tellOne 261 = .ok (.getfield 239, 3) := by decide +kernel
theorem dX11_tellOne_264 : decode cX11_tellOne 264 = .ok (.iaload, 1) := by decide +kernel
theorem dX11_tellOne_265 : decode cX11_tellOne 265 = .ok (.iadd, 1) := by decide +kernel
theorem dX11_tellOne_266 : decode cX11_tellOne 266 = .ok (.invokevirtual 275, 3) := by decide +kernel
theorem dX11_tellOne_269 : decode cX11_tellOne 269 = .ok (.aload_n 0, 1) := by decide +kernel
theorem dX11_tellOne_270 : decode cX11_tellOne 270 = .ok (.getfield 206, 3) := by decide +kernel
theorem dX11_tellOne_273 : decode cX11_tellOne 273 = .ok (.ifCond .ne 141, 3) := by decide +kernel
theorem dX11_tellOne_276 : decode cX11_tellOne 276 = .ok (.aload_n 0, 1) := by decide +kernel
theorem dX11_tellOne_277 : decode cX11_tellOne 277 = .ok (.getfield 55, 3) := by decide +kernel
theorem dX11_tellOne_280 : decode cX11_tellOne 280 = .ok (.aload_n 0, 1) := by decide +kernel
theorem dX11_tellOne_281 : decode cX11_tellOne 281 = .ok (.getfield 239, 3) := by decide +kernel
theorem dX11_tellOne_284 : decode cX11_tellOne 284 = .ok (.dup2, 1) := by decide +kernel
theorem dX11_tellOne_285 : decode cX11_tellOne 285 = .ok (.iaload, 1) := by decide +kernel
theorem dX11_tellOne_286 : decode cX11_tellOne 286 = .ok (.iconst 1, 1) := by decide +kernel
theorem dX11_tellOne_287 : decode cX11_tellOne 287 = .ok (.iadd, 1) := by decide +kernel
theorem dX11_tellOne_288 : decode cX11_tellOne 288 = .ok (.iastore, 1) := by decide +kernel
theorem dX11_tellOne_289 : decode cX11_tellOne 289 = .ok (.goto 125, 3) := by decide +kernel
theorem dX11_tellOne_292 : decode cX11_tellOne 292 = .ok (.aload_n 0, 1) := by decide +kernel
theorem dX11_tellOne_293 : decode cX11_tellOne 293 = .ok (.aload_n 0, 1) := by decide +kernel
theorem dX11_tellOne_294 : decode cX11_tellOne 294 = .ok (.getfield 70, 3) := by decide +kernel
theorem dX11_tellOne_297 : decode cX11_tellOne 297 = .ok (.aload_n 0, 1) := by decide +kernel
theorem dX11_tellOne_298 : decode cX11_tellOne 298 = .ok (.getfield 239, 3) := by decide +kernel
theorem dX11_tellOne_301 : decode cX11_tellOne 301 = .ok (.iaload, 1) := by decide +kernel
theorem dX11_tellOne_302 : decode cX11_tellOne 302 = .ok (.bipush 8, 2) := by decide +kernel
theorem dX11_tellOne_304 : decode cX11_tellOne 304 = .ok (.invokevirtual 267, 3) := by decide +kernel
theorem dX11_tellOne_307 : decode cX11_tellOne 307 = .ok (.aload_n 0, 1) := by decide +kernel
theorem dX11_tellOne_308 : decode cX11_tellOne 308 = .ok (.getfield 206, 3) := by decide +kernel
theorem dX11_tellOne_311 : decode cX11_tellOne 311 = .ok (.ifCond .ne 103, 3) := by decide +kernel
theorem dX11_tellOne_314 : decode cX11_tellOne 314 = .ok (.aload_n 0, 1) := by decide +kernel
theorem dX11_tellOne_315 : decode cX11_tellOne 315 = .ok (.invokevirtual 278, 3) := by decide +kernel
theorem dX11_tellOne_318 : decode cX11_tellOne 318 = .ok (.goto 96, 3) := by decide +kernel
theorem dX11_tellOne_321 : decode cX11_tellOne 321 = .ok (.aload_n 0, 1) := by decide +kernel
theorem dX11_tellOne_322 : decode cX11_tellOne 322 = .ok (.getfield 73, 3) := by decide +kernel
theorem dX11_tellOne_325 : decode cX11_tellOne 325 = .ok (.aload_n 0, 1) := by decide +kernel
theorem dX11_tellOne_326 : decode cX11_tellOne 326 = .ok (.getfield 239, 3) := by decide +kernel
theorem dX11_tellOne_329 : decode cX11_tellOne 329 = .ok (.aload_n 0, 1) := by decide +kernel
theorem dX11_tellOne_330 : decode cX11_tellOne 330 = .ok (.iconst 1, 1) := by decide +kernel
theorem dX11_tellOne_331 : decode cX11_tellOne 331 = .ok (.sipush 999, 3) := by decide +kernel
theorem dX11_tellOne_334 : decode cX11_tellOne 334 = .ok (.invokevirtual 281, 3) := by decide +kernel
theorem dX11_tellOne_337 : decode cX11_tellOne 337 = .ok (.iastore, 1) := by decide +kernel
theorem dX11_tellOne_338 : decode cX11_tellOne 338 = .ok (.goto 76, 3) := by decide +kernel
theorem dX11_tellOne_341 : decode cX11_tellOne 341 = .ok (.aload_n 0, 1) := by decide +kernel
theorem dX11_tellOne_342 : decode cX11_tellOne 342 = .ok (.getfield 76, 3) := by decide +kernel
theorem dX11_tellOne_345 : decode cX11_tellOne 345 = .ok (.aload_n 0, 1) := by decide +kernel
theorem dX11_tellOne_346 : decode cX11_tellOne 346 = .ok (.getfield 239, 3) := by decide +kernel
theorem dX11_tellOne_349 : decode cX11_tellOne 349 = .ok (.aload_n 0, 1) := by decide +kernel
theorem dX11_tellOne_350 : decode cX11_tellOne 350 = .ok (.iconst 0, 1) := by decide +kernel
theorem dX11_tellOne_351 : decode cX11_tellOne 351 = .ok (.sipush 9999, 3) := by decide +kernel
theorem dX11_tellOne_354 : decode cX11_tellOne 354 = .ok (.invokevirtual 281, 3) := by decide +kernel
theorem dX11_tellOne_357 : decode cX11_tellOne 357 = .ok (.iastore, 1) := by decide +kernel
theorem dX11_tellOne_358 : decode cX11_tellOne 358 = .ok (.goto 56, 3) := by decide +kernel
theorem dX11_tellOne_361 : decode cX11_tellOne 361 = .ok (.aload_n 0, 1) := by decide +kernel
theorem dX11_tellOne_362 : decode cX11_tellOne 362 = .ok (.getfield 20, 3) := by decide +kernel
theorem dX11_tellOne_365 : decode cX11_tellOne 365 = .ok (.aload_n 0, 1) := by decide +kernel
theorem dX11_tellOne_366 : decode cX11_tellOne 366 = .ok (.getfield 209, 3) := by decide +kernel
theorem dX11_tellOne_369 : decode cX11_tellOne 369 = .ok (.iaload, 1) := by decide +kernel
theorem dX11_tellOne_370 : decode cX11_tellOne 370 = .ok (.bipush 23, 2) := by decide +kernel
theorem dX11_tellOne_372 : decode cX11_tellOne 372 = .ok (.isub, 1) := by decide +kernel
theorem dX11_tellOne_373 : decode cX11_tellOne 373 = .ok (.istore_n 1, 1) := by decide +kernel
theorem dX11_tellOne_374 : decode cX11_tellOne 374 = .ok (.iload_n 1, 1) := by decide +kernel
theorem dX11_tellOne_375 : decode cX11_tellOne 375 = .ok (.ifCond .lt 17, 3) := by decide +kernel
theorem dX11_tellOne_378 : decode cX11_tellOne 378 = .ok (.aload_n 0, 1) := by decide +kernel
theorem dX11_tellOne_379 : decode cX11_tellOne 379 = .ok (.getfield 20, 3) := by decide +kernel
theorem dX11_tellOne_382 : decode cX11_tellOne 382 = .ok (.aload_n 0, 1) := by decide +kernel
theorem dX11_tellOne_383 : decode cX11_tellOne 383 = .ok (.getfield 209, 3) := by decide +kernel
theorem dX11_tellOne_386 : decode cX11_tellOne 386 = .ok (.iaload, 1) := by decide +kernel
theorem dX11_tellOne_387 : decode cX11_tellOne 387 = .ok (.bipush 26, 2) := by decide +kernel
theorem dX11_tellOne_389 : decode cX11_tellOne 389 = .ok (.if_icmp .le 8, 3) := by decide +kernel
theorem dX11_tellOne_392 : decode cX11_tellOne 392 = .ok (.aload_n 0, 1) := by decide +kernel
theorem dX11_tellOne_393 : decode cX11_tellOne 393 = .ok (.iconst 1, 1) := by decide +kernel
theorem dX11_tellOne_394 : decode cX11_tellOne 394 = .ok (.invokevirtual 221, 3) := by decide +kernel
theorem dX11_tellOne_397 : decode cX11_tellOne 397 = .ok (.aload_n 0, 1) := by decide +kernel
theorem dX11_tellOne_398 : decode cX11_tellOne 398 = .ok (.getfield 206, 3) := by decide +kernel
theorem dX11_tellOne_401 : decode cX11_tellOne 401 = .ok (.ifCond .le 4, 3) := by decide +kernel
theorem dX11_tellOne_404 : decode cX11_tellOne 404 = .ok (.return_, 1) := by decide +kernel
theorem dX11_tellOne_405 : decode cX11_tellOne 405 = .ok (.aload_n 0, 1) := by decide +kernel
theorem dX11_tellOne_406 : decode cX11_tellOne 406 = .ok (.invokevirtual 227, 3) := by decide +kernel
theorem dX11_tellOne_409 : decode cX11_tellOne 409 = .ok (.aload_n 0, 1) := by decide +kernel
theorem dX11_tellOne_410 : decode cX11_tellOne 410 = .ok (.iload_n 1, 1) := by decide +kernel
theorem dX11_tellOne_411 : decode cX11_tellOne 411 = .ok (.invokevirtual 284, 3) := by decide +kernel
theorem dX11_tellOne_414 : decode cX11_tellOne 414 = .ok (.return_, 1) := by decide +kernel
theorem dX11_named_0 : decode cX11_named 0 = .ok (.aload_n 0, 1) := by decide +kernel
theorem dX11_named_1 : decode cX11_named 1 = .ok (.getfield 209, 3) := by decide +kernel
theorem dX11_named_4 : decode cX11_named 4 = .ok (.istore_n 1, 1) := by decide +kernel
theorem dX11_named_5 : decode cX11_named 5 = .ok (.aload_n 0, 1) := by decide +kernel
theorem dX11_named_6 : decode cX11_named 6 = .ok (.iconst 1, 1) := by decide +kernel
theorem dX11_named_7 : decode cX11_named 7 = .ok (.invokevirtual 264, 3) := by decide +kernel
theorem dX11_named_10 : decode cX11_named 10 = .ok (.iconst 0, 1) := by decide +kernel
theorem dX11_named_11 : decode cX11_named 11 = .ok (.istore_n 2, 1) := by decide +kernel
theorem dX11_named_12 : decode cX11_named 12 = .ok (.iload_n 2, 1) := by decide +kernel
theorem dX11_named_13 : decode cX11_named 13 = .ok (.aload_n 0, 1) := by decide +kernel
theorem dX11_named_14 : decode cX11_named 14 = .ok (.getfield 242, 3) := by decide +kernel
theorem dX11_named_17 : decode cX11_named 17 = .ok (.if_icmp .ge 38, 3) := by decide +kernel
theorem dX11_named_20 : decode cX11_named 20 = .ok (.aload_n 0, 1) := by decide +kernel
theorem dX11_named_21 : decode cX11_named 21 = .ok (.getfield 206, 3) := by decide +kernel
theorem dX11_named_24 : decode cX11_named 24 = .ok (.ifCond .ne 31, 3) := by decide +kernel
theorem dX11_named_27 : decode cX11_named 27 = .ok (.aload_n 0, 1) := by decide +kernel
theorem dX11_named_28 : decode cX11_named 28 = .ok (.getfield 40, 3) := by decide +kernel
theorem dX11_named_31 : decode cX11_named 31 = .ok (.iload_n 2, 1) := by decide +kernel
theorem dX11_named_32 : decode cX11_named 32 = .ok (.laload, 1) := by decide +kernel
theorem dX11_named_33 : decode cX11_named 33 = .ok (.aload_n 0, 1) := by decide +kernel
theorem dX11_named_34 : decode cX11_named 34 = .ok (.getfield 30, 3) := by decide +kernel
theorem dX11_named_37 : decode cX11_named 37 = .ok (.iload_n 1, 1) := by decide +kernel
theorem dX11_named_38 : decode cX11_named 38 = .ok (.laload, 1) := by decide +kernel
theorem dX11_named_39 : decode cX11_named 39 = .ok (.lcmp, 1) := by decide +kernel
theorem dX11_named_40 : decode cX11_named 40 = .ok (.ifCond .ne 9, 3) := by decide +kernel
theorem dX11_named_43 : decode cX11_named 43 = .ok (.aload_n 0, 1) := by decide +kernel
theorem dX11_named_44 : decode cX11_named 44 = .ok (.iconst 3, 1) := by decide +kernel
theorem dX11_named_45 : decode cX11_named 45 = .ok (.iload_n 1, 1) := by decide +kernel
theorem dX11_named_46 : decode cX11_named 46 = .ok (.invokevirtual 287, 3) := by decide +kernel
theorem dX11_named_49 : decode cX11_named 49 = .ok (.iinc 2 1, 3) := by decide +kernel
theorem dX11_named_52 : decode cX11_named 52 = .ok (.goto (-40), 3) := by decide +kernel
theorem dX11_named_55 : decode cX11_named 55 = .ok (.iload_n 1, 1) := by decide +kernel
theorem dX11_named_56 : decode cX11_named 56 = .ok (.ireturn, 1) := by decide +kernel
theorem dX11_endsName_0 : decode cX11_endsName 0 = .ok (.aload_n 0, 1) := by decide +kernel
theorem dX11_endsName_1 : decode cX11_endsName 1 = .ok (.iconst 4, 1) := by decide +kernel
theorem dX11_endsName_2 : decode cX11_endsName 2 = .ok (.invokevirtual 264, 3) := by decide +kernel
theorem dX11_endsName_5 : decode cX11_endsName 5 = .ok (.aload_n 0, 1) := by decide +kernel
theorem dX11_endsName_6 : decode cX11_endsName 6 = .ok (.getfield 206, 3) := by decide +kernel
theorem dX11_endsName_9 : decode cX11_endsName 9 = .ok (.ifCond .le 4, 3) := by decide +kernel
theorem dX11_endsName_12 : decode cX11_endsName 12 = .ok (.return_, 1) := by decide +kernel
theorem dX11_endsName_13 : decode cX11_endsName 13 = .ok (.aload_n 0, 1) := by decide +kernel
theorem dX11_endsName_14 : decode cX11_endsName 14 = .ok (.getfield 40, 3) := by decide +kernel
theorem dX11_endsName_17 : decode cX11_endsName 17 = .ok (.aload_n 0, 1) := by decide +kernel
theorem dX11_endsName_18 : decode cX11_endsName 18 = .ok (.getfield 242, 3) := by decide +kernel
theorem dX11_endsName_21 : decode cX11_endsName 21 = .ok (.aload_n 0, 1) := by decide +kernel
theorem dX11_endsName_22 : decode cX11_endsName 22 = .ok (.getfield 30, 3) := by decide +kernel
theorem dX11_endsName_25 : decode cX11_endsName 25 = .ok (.iload_n 1, 1) := by decide +kernel
theorem dX11_endsName_26 : decode cX11_endsName 26 = .ok (.laload, 1) := by decide +kernel
theorem dX11_endsName_27 : decode cX11_endsName 27 = .ok (.lastore, 1) := by decide +kernel
theorem dX11_endsName_28 : decode cX11_endsName 28 = .ok (.aload_n 0, 1) := by decide +kernel
theorem dX11_endsName_29 : decode cX11_endsName 29 = .ok (.getfield 43, 3) := by decide +kernel
theorem dX11_endsName_32 : decode cX11_endsName 32 = .ok (.aload_n 0, 1) := by decide +kernel
theorem dX11_endsName_33 : decode cX11_endsName 33 = .ok (.getfield 242, 3) := by decide +kernel
theorem dX11_endsName_36 : decode cX11_endsName 36 = .ok (.iload_n 2, 1) := by decide +kernel
theorem dX11_endsName_37 : decode cX11_endsName 37 = .ok (.iastore, 1) := by decide +kernel
theorem dX11_endsName_38 : decode cX11_endsName 38 = .ok (.aload_n 0, 1) := by decide +kernel
theorem dX11_endsName_39 : decode cX11_endsName 39 = .ok (.dup, 1) := by decide +kernel
theorem dX11_endsName_40 : decode cX11_endsName 40 = .ok (.getfield 242, 3) := by decide +kernel
theorem dX11_endsName_43 : decode cX11_endsName 43 = .ok (.iconst 1, 1) := by decide +kernel
theorem dX11_endsName_44 : decode cX11_endsName 44 = .ok (.iadd, 1) := by decide +kernel
theorem dX11_endsName_45 : decode cX11_endsName 45 = .ok (.putfield 242, 3) := by decide +kernel
theorem dX11_endsName_48 : decode cX11_endsName 48 = .ok (.return_, 1) := by decide +kernel
theorem dX11_known_0 : decode cX11_known 0 = .ok (.aload_n 0, 1) := by decide +kernel
theorem dX11_known_1 : decode cX11_known 1 = .ok (.getfield 209, 3) := by decide +kernel
theorem dX11_known_4 : decode cX11_known 4 = .ok (.istore_n 1, 1) := by decide +kernel
theorem dX11_known_5 : decode cX11_known 5 = .ok (.aload_n 0, 1) := by decide +kernel
theorem dX11_known_6 : decode cX11_known 6 = .ok (.iconst 1, 1) := by decide +kernel
theorem dX11_known_7 : decode cX11_known 7 = .ok (.invokevirtual 264, 3) := by decide +kernel
theorem dX11_known_10 : decode cX11_known 10 = .ok (.aload_n 0, 1) := by decide +kernel
theorem dX11_known_11 : decode cX11_known 11 = .ok (.getfield 206, 3) := by decide +kernel
theorem dX11_known_14 : decode cX11_known 14 = .ok (.ifCond .le 5, 3) := by decide +kernel
theorem dX11_known_17 : decode cX11_known 17 = .ok (.iconst (-1), 1) := by decide +kernel
theorem dX11_known_18 : decode cX11_known 18 = .ok (.ireturn, 1) := by decide +kernel
theorem dX11_known_19 : decode cX11_known 19 = .ok (.iconst 0, 1) := by decide +kernel
theorem dX11_known_20 : decode cX11_known 20 = .ok (.istore_n 2, 1) := by decide +kernel
theorem dX11_known_21 : decode cX11_known 21 = .ok (.iload_n 2, 1) := by decide +kernel
theorem dX11_known_22 : decode cX11_known 22 = .ok (.aload_n 0, 1) := by decide +kernel
theorem dX11_known_23 : decode cX11_known 23 = .ok (.getfield 242, 3) := by decide +kernel
theorem dX11_known_26 : decode cX11_known 26 = .ok (.if_icmp .ge 46, 3) := by decide +kernel
theorem dX11_known_29 : decode cX11_known 29 = .ok (.aload_n 0, 1) := by decide +kernel
theorem dX11_known_30 : decode cX11_known 30 = .ok (.getfield 40, 3) := by decide +kernel
theorem dX11_known_33 : decode cX11_known 33 = .ok (.iload_n 2, 1) := by decide +kernel
theorem dX11_known_34 : decode cX11_known 34 = .ok (.laload, 1) := by decide +kernel
theorem dX11_known_35 : decode cX11_known 35 = .ok (.aload_n 0, 1) := by decide +kernel
theorem dX11_known_36 : decode cX11_known 36 = .ok (.getfield 30, 3) := by decide +kernel
theorem dX11_known_39 : decode cX11_known 39 = .ok (.iload_n 1, 1) := by decide +kernel
theorem dX11_known_40 : decode cX11_known 40 = .ok (.laload, 1) := by decide +kernel
theorem dX11_known_41 : decode cX11_known 41 = .ok (.lcmp, 1) := by decide +kernel
theorem dX11_known_42 : decode cX11_known 42 = .ok (.ifCond .ne 24, 3) := by decide +kernel
theorem dX11_known_45 : decode cX11_known 45 = .ok (.aload_n 0, 1) := by decide +kernel
theorem dX11_known_46 : decode cX11_known 46 = .ok (.getfield 43, 3) := by decide +kernel
theorem dX11_known_49 : decode cX11_known 49 = .ok (.iload_n 2, 1) := by decide +kernel
theorem dX11_known_50 : decode cX11_known 50 = .ok (.iaload, 1) := by decide +kernel
theorem dX11_known_51 : decode cX11_known 51 = .ok (.bipush 10, 2) := by decide +kernel
theorem dX11_known_53 : decode cX11_known 53 = .ok (.if_icmp .lt 13, 3) := by decide +kernel
theorem dX11_known_56 : decode cX11_known 56 = .ok (.aload_n 0, 1) := by decide +kernel
theorem dX11_known_57 : decode cX11_known 57 = .ok (.getfield 43, 3) := by decide +kernel
theorem dX11_known_60 : decode cX11_known 60 = .ok (.iload_n 2, 1) := by decide +kernel
theorem dX11_known_61 : decode cX11_known 61 = .ok (.iaload, 1) := by decide +kernel
theorem dX11_known_62 : decode cX11_known 62 = .ok (.bipush 10, 2) := by decide +kernel
theorem dX11_known_64 : decode cX11_known 64 = .ok (.isub, 1) := by decide +kernel
theorem dX11_known_65 : decode cX11_known 65 = .ok (.ireturn, 1) := by decide +kernel
theorem dX11_known_66 : decode cX11_known 66 = .ok (.iinc 2 1, 3) := by decide +kernel
theorem dX11_known_69 : decode cX11_known 69 = .ok (.goto (-48), 3) := by decide +kernel
theorem dX11_known_72 : decode cX11_known 72 = .ok (.aload_n 0, 1) := by decide +kernel
theorem dX11_known_73 : decode cX11_known 73 = .ok (.iconst 4, 1) := by decide +kernel
theorem dX11_known_74 : decode cX11_known 74 = .ok (.iload_n 1, 1) := by decide +kernel
theorem dX11_known_75 : decode cX11_known 75 = .ok (.invokevirtual 287, 3) := by decide +kernel
theorem dX11_known_78 : decode cX11_known 78 = .ok (.iconst (-1), 1) := by decide +kernel
theorem dX11_known_79 : decode cX11_known 79 = .ok (.ireturn, 1) := by decide +kernel
theorem dX11_bounded_0 : decode cX11_bounded 0 = .ok (.aload_n 0, 1) := by decide +kernel
theorem dX11_bounded_1 : decode cX11_bounded 1 = .ok (.getfield 206, 3) := by decide +kernel
theorem dX11_bounded_4 : decode cX11_bounded 4 = .ok (.ifCond .gt 11, 3) := by decide +kernel
theorem dX11_bounded_7 : decode cX11_bounded 7 = .ok (.aload_n 0, 1) := by decide +kernel
theorem dX11_bounded_8 : decode cX11_bounded 8 = .ok (.iconst 2, 1) := by decide +kernel
theorem dX11_bounded_9 : decode cX11_bounded 9 = .ok (.invokevirtual 224, 3) := by decide +kernel
theorem dX11_bounded_12 : decode cX11_bounded 12 = .ok (.ifCond .ne 10, 3) := by decide +kernel
theorem dX11_bounded_15 : decode cX11_bounded 15 = .ok (.aload_n 0, 1) := by decide +kernel
theorem dX11_bounded_16 : decode cX11_bounded 16 = .ok (.iconst 1, 1) := by decide +kernel
theorem dX11_bounded_17 : decode cX11_bounded 17 = .ok (.invokevirtual 221, 3) := by decide +kernel
theorem dX11_bounded_20 : decode cX11_bounded 20 = .ok (.iload_n 1, 1) := by decide +kernel
theorem dX11_bounded_21 : decode cX11_bounded 21 = .ok (.ireturn, 1) := by decide +kernel
theorem dX11_bounded_22 : decode cX11_bounded 22 = .ok (.aload_n 0, 1) := by decide +kernel
theorem dX11_bounded_23 : decode cX11_bounded 23 = .ok (.getfield 27, 3) := by decide +kernel
theorem dX11_bounded_26 : decode cX11_bounded 26 = .ok (.aload_n 0, 1) := by decide +kernel
theorem dX11_bounded_27 : decode cX11_bounded 27 = .ok (.getfield 209, 3) := by decide +kernel
theorem dX11_bounded_30 : decode cX11_bounded 30 = .ok (.iaload, 1) := by decide +kernel
theorem dX11_bounded_31 : decode cX11_bounded 31 = .ok (.istore_n 3, 1) := by decide +kernel
theorem dX11_bounded_32 : decode cX11_bounded 32 = .ok (.iload_n 3, 1) := by decide +kernel
theorem dX11_bounded_33 : decode cX11_bounded 33 = .ok (.iload_n 1, 1) := by decide +kernel
theorem dX11_bounded_34 : decode cX11_bounded 34 = .ok (.if_icmp .lt 8, 3) := by decide +kernel
theorem dX11_bounded_37 : decode cX11_bounded 37 = .ok (.iload_n 3, 1) := by decide +kernel
theorem dX11_bounded_38 : decode cX11_bounded 38 = .ok (.iload_n 2, 1) := by decide +kernel
theorem dX11_bounded_39 : decode cX11_bounded 39 = .ok (.if_icmp .le 12, 3) := by decide +kernel
theorem dX11_bounded_42 : decode cX11_bounded 42 = .ok (.aload_n 0, 1) := by decide +kernel
theorem dX11_bounded_43 : decode cX11_bounded 43 = .ok (.iconst 5, 1) := by decide +kernel
theorem dX11_bounded_44 : decode cX11_bounded 44 = .ok (.aload_n 0, 1) := by decide +kernel
theorem dX11_bounded_45 : decode cX11_bounded 45 = .ok (.getfield 209, 3) := by decide +kernel
theorem dX11_bounded_48 : decode cX11_bounded 48 = .ok (.invokevirtual 287, 3) := by decide +kernel
theorem dX11_bounded_51 : decode cX11_bounded 51 = .ok (.aload_n 0, 1) := by decide +kernel
theorem dX11_bounded_52 : decode cX11_bounded 52 = .ok (.invokevirtual 227, 3) := by decide +kernel
theorem dX11_bounded_55 : decode cX11_bounded 55 = .ok (.iload_n 3, 1) := by decide +kernel
theorem dX11_bounded_56 : decode cX11_bounded 56 = .ok (.ireturn, 1) := by decide +kernel
theorem dX11_tellFoes_0 : decode cX11_tellFoes 0 = .ok (.aload_n 0, 1) := by decide +kernel
theorem dX11_tellFoes_1 : decode cX11_tellFoes 1 = .ok (.invokevirtual 290, 3) := by decide +kernel
theorem dX11_tellFoes_4 : decode cX11_tellFoes 4 = .ok (.istore_n 1, 1) := by decide +kernel
theorem dX11_tellFoes_5 : decode cX11_tellFoes 5 = .ok (.aload_n 0, 1) := by decide +kernel
theorem dX11_tellFoes_6 : decode cX11_tellFoes 6 = .ok (.getfield 209, 3) := by decide +kernel
theorem dX11_tellFoes_9 : decode cX11_tellFoes 9 = .ok (.istore_n 2, 1) := by decide +kernel
theorem dX11_tellFoes_10 : decode cX11_tellFoes 10 = .ok (.aload_n 0, 1) := by decide +kernel
theorem dX11_tellFoes_11 : decode cX11_tellFoes 11 = .ok (.invokevirtual 290, 3) := by decide +kernel
theorem dX11_tellFoes_14 : decode cX11_tellFoes 14 = .ok (.istore_n 3, 1) := by decide +kernel
theorem dX11_tellFoes_15 : decode cX11_tellFoes 15 = .ok (.aload_n 0, 1) := by decide +kernel
theorem dX11_tellFoes_16 : decode cX11_tellFoes 16 = .ok (.getfield 206, 3) := by decide +kernel
theorem dX11_tellFoes_19 : decode cX11_tellFoes 19 = .ok (.ifCond .ne 15, 3) := by decide +kernel
theorem dX11_tellFoes_22 : decode cX11_tellFoes 22 = .ok (.iload_n 1, 1) := by decide +kernel
theorem dX11_tellFoes_23 : decode cX11_tellFoes 23 = .ok (.ifCond .lt 11, 3) := by decide +kernel
theorem dX11_tellFoes_26 : decode cX11_tellFoes 26 = .ok (.iload_n 3, 1) := by decide +kernel
theorem dX11_tellFoes_27 : decode cX11_tellFoes 27 = .ok (.ifCond .lt 7, 3) := by decide +kernel
theorem dX11_tellFoes_30 : decode cX11_tellFoes 30 = .ok (.iconst 1, 1) := by decide +kernel
theorem dX11_tellFoes_31 : decode cX11_tellFoes 31 = .ok (.goto 4, 3) := by decide +kernel
theorem dX11_tellFoes_34 : decode cX11_tellFoes 34 = .ok (.iconst 0, 1) := by decide +kernel
theorem dX11_tellFoes_35 : decode cX11_tellFoes 35 = .ok (.istore 4, 2) := by decide +kernel
theorem dX11_tellFoes_37 : decode cX11_tellFoes 37 = .ok (.iload 4, 2) := by decide +kernel
theorem dX11_tellFoes_39 : decode cX11_tellFoes 39 = .ok (.ifCond .eq 36, 3) := by decide +kernel
theorem dX11_tellFoes_42 : decode cX11_tellFoes 42 = .ok (.iload_n 1, 1) := by decide +kernel
theorem dX11_tellFoes_43 : decode cX11_tellFoes 43 = .ok (.iload_n 3, 1) := by decide +kernel
theorem dX11_tellFoes_44 : decode cX11_tellFoes 44 = .ok (.if_icmp .eq 25, 3) := by decide +kernel
theorem dX11_tellFoes_47 : decode cX11_tellFoes 47 = .ok (.aload_n 0, 1) := by decide +kernel
theorem dX11_tellFoes_48 : decode cX11_tellFoes 48 = .ok (.getfield 67, 3) := by decide +kernel
theorem dX11_tellFoes_51 : decode cX11_tellFoes 51 = .ok (.bipush 7, 2) := by decide +kernel
theorem dX11_tellFoes_53 : decode cX11_tellFoes 53 = .ok (.aload_n 0, 1) := by decide +kernel
theorem dX11_tellFoes_54 : decode cX11_tellFoes 54 = .ok (.getfield 239, 3) := by decide +kernel
theorem dX11_tellFoes_57 : decode cX11_tellFoes 57 = .ok (.imul, 1) := by decide +kernel
theorem dX11_tellFoes_58 : decode cX11_tellFoes 58 = .ok (.iload_n 1, 1) := by decide +kernel
theorem dX11_tellFoes_59 : decode cX11_tellFoes 59 = .ok (.iadd, 1) := by decide +kernel
theorem dX11_tellFoes_60 : decode cX11_tellFoes 60 = .ok (.iaload, 1) := by decide +kernel
theorem dX11_tellFoes_61 : decode cX11_tellFoes 61 = .ok (.iload_n 3, 1) := by decide +kernel
theorem dX11_tellFoes_62 : decode cX11_tellFoes 62 = .ok (.ishr, 1) := by decide +kernel
theorem dX11_tellFoes_63 : decode cX11_tellFoes 63 = .ok (.iconst 1, 1) := by decide +kernel
theorem dX11_tellFoes_64 : decode cX11_tellFoes 64 = .ok (.iand, 1) := by decide +kernel
theorem dX11_tellFoes_65 : decode cX11_tellFoes 65 = .ok (.iconst 1, 1) := by decide +kernel
theorem dX11_tellFoes_66 : decode cX11_tellFoes 66 = .ok (.if_icmp .ne 9, 3) := by decide +kernel
theorem dX11_tellFoes_69 : decode cX11_tellFoes 69 = .ok (.aload_n 0, 1) := by decide +kernel
theorem dX11_tellFoes_70 : decode cX11_tellFoes 70 = .ok (.iconst 3, 1) := by decide +kernel
theorem dX11_tellFoes_71 : decode cX11_tellFoes 71 = .ok (.iload_n 2, 1) := by decide +kernel
theorem dX11_tellFoes_72 : decode cX11_tellFoes 72 = .ok (.invokevirtual 287, 3) := by decide +kernel
theorem dX11_tellFoes_75 : decode cX11_tellFoes 75 = .ok (.aload_n 0, 1) := by decide +kernel
theorem dX11_tellFoes_76 : decode cX11_tellFoes 76 = .ok (.iconst 4, 1) := by decide +kernel
theorem dX11_tellFoes_77 : decode cX11_tellFoes 77 = .ok (.invokevirtual 264, 3) := by decide +kernel
theorem dX11_tellFoes_80 : decode cX11_tellFoes 80 = .ok (.aload_n 0, 1) := by decide +kernel
theorem dX11_tellFoes_81 : decode cX11_tellFoes 81 = .ok (.getfield 206, 3) := by decide +kernel
theorem dX11_tellFoes_84 : decode cX11_tellFoes 84 = .ok (.ifCond .le 4, 3) := by decide +kernel
theorem dX11_tellFoes_87 : decode cX11_tellFoes 87 = .ok (.return_, 1) := by decide +kernel
theorem dX11_tellFoes_88 : decode cX11_tellFoes 88 = .ok (.aload_n 0, 1) := by decide +kernel
theorem dX11_tellFoes_89 : decode cX11_tellFoes 89 = .ok (.getfield 70, 3) := by decide +kernel
theorem dX11_tellFoes_92 : decode cX11_tellFoes 92 = .ok (.aload_n 0, 1) := by decide +kernel
theorem dX11_tellFoes_93 : decode cX11_tellFoes 93 = .ok (.getfield 239, 3) := by decide +kernel
theorem dX11_tellFoes_96 : decode cX11_tellFoes 96 = .ok (.dup2, 1) := by decide +kernel
theorem dX11_tellFoes_97 : decode cX11_tellFoes 97 = .ok (.iaload, 1) := by decide +kernel
theorem dX11_tellFoes_98 : decode cX11_tellFoes 98 = .ok (.iconst 1, 1) := by decide +kernel
theorem dX11_tellFoes_99 : decode cX11_tellFoes 99 = .ok (.iadd, 1) := by decide +kernel
theorem dX11_tellFoes_100 : decode cX11_tellFoes 100 = .ok (.iastore, 1) := by decide +kernel
theorem dX11_tellFoes_101 : decode cX11_tellFoes 101 = .ok (.iload 4, 2) := by decide +kernel
theorem dX11_tellFoes_103 : decode cX11_tellFoes 103 = .ok (.ifCond .ne 4, 3) := by decide +kernel
theorem dX11_tellFoes_106 : decode cX11_tellFoes 106 = .ok (.return_, 1) := by decide +kernel
theorem dX11_tellFoes_107 : decode cX11_tellFoes 107 = .ok (.aload_n 0, 1) := by decide +kernel
theorem dX11_tellFoes_108 : decode cX11_tellFoes 108 = .ok (.getfield 67, 3) := by decide +kernel
theorem dX11_tellFoes_111 : decode cX11_tellFoes 111 = .ok (.bipush 7, 2) := by decide +kernel
theorem dX11_tellFoes_113 : decode cX11_tellFoes 113 = .ok (.aload_n 0, 1) := by decide +kernel
theorem dX11_tellFoes_114 : decode cX11_tellFoes 114 = .ok (.getfield 239, 3) := by decide +kernel
theorem dX11_tellFoes_117 : decode cX11_tellFoes 117 = .ok (.imul, 1) := by decide +kernel
theorem dX11_tellFoes_118 : decode cX11_tellFoes 118 = .ok (.iload_n 1, 1) := by decide +kernel
theorem dX11_tellFoes_119 : decode cX11_tellFoes 119 = .ok (.iadd, 1) := by decide +kernel
theorem dX11_tellFoes_120 : decode cX11_tellFoes 120 = .ok (.dup2, 1) := by decide +kernel
theorem dX11_tellFoes_121 : decode cX11_tellFoes 121 = .ok (.iaload, 1) := by decide +kernel
theorem dX11_tellFoes_122 : decode cX11_tellFoes 122 = .ok (.iconst 1, 1) := by decide +kernel
theorem dX11_tellFoes_123 : decode cX11_tellFoes 123 = .ok (.iload_n 3, 1) := by decide +kernel
theorem dX11_tellFoes_124 : decode cX11_tellFoes 124 = .ok (.ishl, 1) := by decide +kernel
theorem dX11_tellFoes_125 : decode cX11_tellFoes 125 = .ok (.ior, 1) := by decide +kernel
theorem dX11_tellFoes_126 : decode cX11_tellFoes 126 = .ok (.iastore, 1) := by decide +kernel
theorem dX11_tellFoes_127 : decode cX11_tellFoes 127 = .ok (.aload_n 0, 1) := by decide +kernel
theorem dX11_tellFoes_128 : decode cX11_tellFoes 128 = .ok (.getfield 67, 3) := by decide +kernel
theorem dX11_tellFoes_131 : decode cX11_tellFoes 131 = .ok (.bipush 7, 2) := by decide +kernel
theorem dX11_tellFoes_133 : decode cX11_tellFoes 133 = .ok (.aload_n 0, 1) := by decide +kernel
theorem dX11_tellFoes_134 : decode cX11_tellFoes 134 = .ok (.getfield 239, 3) := by decide +kernel
theorem dX11_tellFoes_137 : decode cX11_tellFoes 137 = .ok (.imul, 1) := by decide +kernel
theorem dX11_tellFoes_138 : decode cX11_tellFoes 138 = .ok (.iload_n 3, 1) := by decide +kernel
theorem dX11_tellFoes_139 : decode cX11_tellFoes 139 = .ok (.iadd, 1) := by decide +kernel
theorem dX11_tellFoes_140 : decode cX11_tellFoes 140 = .ok (.dup2, 1) := by decide +kernel
theorem dX11_tellFoes_141 : decode cX11_tellFoes 141 = .ok (.iaload, 1) := by decide +kernel
theorem dX11_tellFoes_142 : decode cX11_tellFoes 142 = .ok (.iconst 1, 1) := by decide +kernel
theorem dX11_tellFoes_143 : decode cX11_tellFoes 143 = .ok (.iload_n 1, 1) := by decide +kernel
theorem dX11_tellFoes_144 : decode cX11_tellFoes 144 = .ok (.ishl, 1) := by decide +kernel
theorem dX11_tellFoes_145 : decode cX11_tellFoes 145 = .ok (.ior, 1) := by decide +kernel
theorem dX11_tellFoes_146 : decode cX11_tellFoes 146 = .ok (.iastore, 1) := by decide +kernel
theorem dX11_tellFoes_147 : decode cX11_tellFoes 147 = .ok (.return_, 1) := by decide +kernel
theorem dX11_tellLaw_0 : decode cX11_tellLaw 0 = .ok (.aload_n 0, 1) := by decide +kernel
theorem dX11_tellLaw_1 : decode cX11_tellLaw 1 = .ok (.iconst 5, 1) := by decide +kernel
theorem dX11_tellLaw_2 : decode cX11_tellLaw 2 = .ok (.invokevirtual 264, 3) := by decide +kernel
theorem dX11_tellLaw_5 : decode cX11_tellLaw 5 = .ok (.aload_n 0, 1) := by decide +kernel
theorem dX11_tellLaw_6 : decode cX11_tellLaw 6 = .ok (.getfield 245, 3) := by decide +kernel
theorem dX11_tellLaw_9 : decode cX11_tellLaw 9 = .ok (.istore_n 2, 1) := by decide +kernel
theorem dX11_tellLaw_10 : decode cX11_tellLaw 10 = .ok (.iconst 0, 1) := by decide +kernel
theorem dX11_tellLaw_11 : decode cX11_tellLaw 11 = .ok (.istore_n 3, 1) := by decide +kernel
theorem dX11_tellLaw_12 : decode cX11_tellLaw 12 = .ok (.aload_n 0, 1) := by decide +kernel
theorem dX11_tellLaw_13 : decode cX11_tellLaw 13 = .ok (.getfield 206, 3) := by decide +kernel
theorem dX11_tellLaw_16 : decode cX11_tellLaw 16 = .ok (.ifCond .ne 113, 3) := by decide +kernel
theorem dX11_tellLaw_19 : decode cX11_tellLaw 19 = .ok (.aload_n 0, 1) := by decide +kernel
theorem dX11_tellLaw_20 : decode cX11_tellLaw 20 = .ok (.bipush 29, 2) := by decide +kernel
theorem dX11_tellLaw_22 : decode cX11_tellLaw 22 = .ok (.invokevirtual 224, 3) := by decide +kernel
theorem dX11_tellLaw_25 : decode cX11_tellLaw 25 = .ok (.ifCond .eq 104, 3) := by decide +kernel
theorem dX11_tellLaw_28 : decode cX11_tellLaw 28 = .ok (.iload_n 3, 1) := by decide +kernel
theorem dX11_tellLaw_29 : decode cX11_tellLaw 29 = .ok (.iconst 4, 1) := by decide +kernel
theorem dX11_tellLaw_30 : decode cX11_tellLaw 30 = .ok (.if_icmp .ne 8, 3) := by decide +kernel
theorem dX11_tellLaw_33 : decode cX11_tellLaw 33 = .ok (.aload_n 0, 1) := by decide +kernel
theorem dX11_tellLaw_34 : decode cX11_tellLaw 34 = .ok (.iconst 2, 1) := by decide +kernel
theorem dX11_tellLaw_35 : decode cX11_tellLaw 35 = .ok (.invokevirtual 221, 3) := by decide +kernel
theorem dX11_tellLaw_38 : decode cX11_tellLaw 38 = .ok (.aload_n 0, 1) := by decide +kernel
theorem dX11_tellLaw_39 : decode cX11_tellLaw 39 = .ok (.getfield 206, 3) := by decide +kernel
theorem dX11_tellLaw_42 : decode cX11_tellLaw 42 = .ok (.ifCond .le 4, 3) := by decide +kernel
theorem dX11_tellLaw_45 : decode cX11_tellLaw 45 = .ok (.return_, 1) := by decide +kernel
theorem dX11_tellLaw_46 : decode cX11_tellLaw 46 = .ok (.iinc 3 1, 3) := by decide +kernel
theorem dX11_tellLaw_49 : decode cX11_tellLaw 49 = .ok (.aload_n 0, 1) := by decide +kernel
theorem dX11_tellLaw_50 : decode cX11_tellLaw 50 = .ok (.invokevirtual 227, 3) := by decide +kernel
theorem dX11_tellLaw_53 : decode cX11_tellLaw 53 = .ok (.aload_n 0, 1) := by decide +kernel
theorem dX11_tellLaw_54 : decode cX11_tellLaw 54 = .ok (.getfield 85, 3) := by decide +kernel
theorem dX11_tellLaw_57 : decode cX11_tellLaw 57 = .ok (.aload_n 0, 1) := by decide +kernel
theorem dX11_tellLaw_58 : decode cX11_tellLaw 58 = .ok (.getfield 245, 3) := by decide +kernel
theorem dX11_tellLaw_61 : decode cX11_tellLaw 61 = .ok (.iconst 1, 1) := by decide +kernel
theorem dX11_tellLaw_62 : decode cX11_tellLaw 62 = .ok (.bastore, 1) := by decide +kernel
theorem dX11_tellLaw_63 : decode cX11_tellLaw 63 = .ok (.aload_n 0, 1) := by decide +kernel
theorem dX11_tellLaw_64 : decode cX11_tellLaw 64 = .ok (.getfield 89, 3) := by decide +kernel
theorem dX11_tellLaw_67 : decode cX11_tellLaw 67 = .ok (.aload_n 0, 1) := by decide +kernel
theorem dX11_tellLaw_68 : decode cX11_tellLaw 68 = .ok (.getfield 245, 3) := by decide +kernel
theorem dX11_tellLaw_71 : decode cX11_tellLaw 71 = .ok (.aload_n 0, 1) := by decide +kernel
theorem dX11_tellLaw_72 : decode cX11_tellLaw 72 = .ok (.getfield 248, 3) := by decide +kernel
theorem dX11_tellLaw_75 : decode cX11_tellLaw 75 = .ok (.iastore, 1) := by decide +kernel
theorem dX11_tellLaw_76 : decode cX11_tellLaw 76 = .ok (.aload_n 0, 1) := by decide +kernel
theorem dX11_tellLaw_77 : decode cX11_tellLaw 77 = .ok (.invokevirtual 293, 3) := by decide +kernel
theorem dX11_tellLaw_80 : decode cX11_tellLaw 80 = .ok (.aload_n 0, 1) := by decide +kernel
theorem dX11_tellLaw_81 : decode cX11_tellLaw 81 = .ok (.bipush 13, 2) := by decide +kernel
theorem dX11_tellLaw_83 : decode cX11_tellLaw 83 = .ok (.invokevirtual 264, 3) := by decide +kernel
theorem dX11_tellLaw_86 : decode cX11_tellLaw 86 = .ok (.aload_n 0, 1) := by decide +kernel
theorem dX11_tellLaw_87 : decode cX11_tellLaw 87 = .ok (.getfield 92, 3) := by decide +kernel
theorem dX11_tellLaw_90 : decode cX11_tellLaw 90 = .ok (.aload_n 0, 1) := by decide +kernel
theorem dX11_tellLaw_91 : decode cX11_tellLaw 91 = .ok (.getfield 245, 3) := by decide +kernel
theorem dX11_tellLaw_94 : decode cX11_tellLaw 94 = .ok (.aload_n 0, 1) := by decide +kernel
theorem dX11_tellLaw_95 : decode cX11_tellLaw 95 = .ok (.getfield 248, 3) := by decide +kernel
theorem dX11_tellLaw_98 : decode cX11_tellLaw 98 = .ok (.iastore, 1) := by decide +kernel
theorem dX11_tellLaw_99 : decode cX11_tellLaw 99 = .ok (.aload_n 0, 1) := by decide +kernel
theorem dX11_tellLaw_100 : decode cX11_tellLaw 100 = .ok (.getfield 206, 3) := by decide +kernel
theorem dX11_tellLaw_103 : decode cX11_tellLaw 103 = .ok (.ifCond .ne 7, 3) := by decide +kernel
theorem dX11_tellLaw_106 : decode cX11_tellLaw 106 = .ok (.aload_n 0, 1) := by decide +kernel
theorem dX11_tellLaw_107 : decode cX11_tellLaw 107 = .ok (.invokevirtual 293, 3) := by decide +kernel
theorem dX11_tellLaw_110 : decode cX11_tellLaw 110 = .ok (.aload_n 0, 1) := by decide +kernel
theorem dX11_tellLaw_111 : decode cX11_tellLaw 111 = .ok (.bipush 30, 2) := by decide +kernel
theorem dX11_tellLaw_113 : decode cX11_tellLaw 113 = .ok (.invokevirtual 264, 3) := by decide +kernel
theorem dX11_tellLaw_116 : decode cX11_tellLaw 116 = .ok (.aload_n 0, 1) := by decide +kernel
theorem dX11_tellLaw_117 : decode cX11_tellLaw 117 = .ok (.invokevirtual 296, 3) := by decide +kernel
theorem dX11_tellLaw_120 : decode cX11_tellLaw 120 = .ok (.aload_n 0, 1) := by decide +kernel
theorem dX11_tellLaw_121 : decode cX11_tellLaw 121 = .ok (.bipush 31, 2) := by decide +kernel
theorem dX11_tellLaw_123 : decode cX11_tellLaw 123 = .ok (.invokevirtual 264, 3) := by decide +kernel
theorem dX11_tellLaw_126 : decode cX11_tellLaw 126 = .ok (.goto (-114), 3) := by decide +kernel
theorem dX11_tellLaw_129 : decode cX11_tellLaw 129 = .ok (.aload_n 0, 1) := by decide +kernel
theorem dX11_tellLaw_130 : decode cX11_tellLaw 130 = .ok (.getfield 85, 3) := by decide +kernel
theorem dX11_tellLaw_133 : decode cX11_tellLaw 133 = .ok (.aload_n 0, 1) := by decide +kernel
theorem dX11_tellLaw_134 : decode cX11_tellLaw 134 = .ok (.getfield 245, 3) := by decide +kernel
theorem dX11_tellLaw_137 : decode cX11_tellLaw 137 = .ok (.iconst 0, 1) := by decide +kernel
theorem dX11_tellLaw_138 : decode cX11_tellLaw 138 = .ok (.bastore, 1) := by decide +kernel
theorem dX11_tellLaw_139 : decode cX11_tellLaw 139 = .ok (.aload_n 0, 1) := by decide +kernel
theorem dX11_tellLaw_140 : decode cX11_tellLaw 140 = .ok (.invokevirtual 296, 3) := by decide +kernel
theorem dX11_tellLaw_143 : decode cX11_tellLaw 143 = .ok (.aload_n 0, 1) := by decide +kernel
theorem dX11_tellLaw_144 : decode cX11_tellLaw 144 = .ok (.iconst 4, 1) := by decide +kernel
theorem dX11_tellLaw_145 : decode cX11_tellLaw 145 = .ok (.invokevirtual 264, 3) := by decide +kernel
theorem dX11_tellLaw_148 : decode cX11_tellLaw 148 = .ok (.aload_n 0, 1) := by decide +kernel
theorem dX11_tellLaw_149 : decode cX11_tellLaw 149 = .ok (.getfield 206, 3) := by decide +kernel
theorem dX11_tellLaw_152 : decode cX11_tellLaw 152 = .ok (.ifCond .le 4, 3) := by decide +kernel
theorem dX11_tellLaw_155 : decode cX11_tellLaw 155 = .ok (.return_, 1) := by decide +kernel
theorem dX11_tellLaw_156 : decode cX11_tellLaw 156 = .ok (.aload_n 0, 1) := by decide +kernel
theorem dX11_tellLaw_157 : decode cX11_tellLaw 157 = .ok (.getfield 79, 3) := by decide +kernel
theorem dX11_tellLaw_160 : decode cX11_tellLaw 160 = .ok (.iconst 4, 1) := by decide +kernel
theorem dX11_tellLaw_161 : decode cX11_tellLaw 161 = .ok (.aload_n 0, 1) := by decide +kernel
theorem dX11_tellLaw_162 : decode cX11_tellLaw 162 = .ok (.getfield 239, 3) := by decide +kernel
theorem dX11_tellLaw_165 : decode cX11_tellLaw 165 = .ok (.imul, 1) := by decide +kernel
theorem dX11_tellLaw_166 : decode cX11_tellLaw 166 = .ok (.iload_n 1, 1) := by decide +kernel
theorem dX11_tellLaw_167 : decode cX11_tellLaw 167 = .ok (.iadd, 1) := by decide +kernel
theorem dX11_tellLaw_168 : decode cX11_tellLaw 168 = .ok (.iload_n 2, 1) := by decide +kernel
theorem dX11_tellLaw_169 : decode cX11_tellLaw 169 = .ok (.iastore, 1) := by decide +kernel
theorem dX11_tellLaw_170 : decode cX11_tellLaw 170 = .ok (.aload_n 0, 1) := by decide +kernel
theorem dX11_tellLaw_171 : decode cX11_tellLaw 171 = .ok (.getfield 82, 3) := by decide +kernel
theorem dX11_tellLaw_174 : decode cX11_tellLaw 174 = .ok (.iconst 4, 1) := by decide +kernel
theorem dX11_tellLaw_175 : decode cX11_tellLaw 175 = .ok (.aload_n 0, 1) := by decide +kernel
theorem dX11_tellLaw_176 : decode cX11_tellLaw 176 = .ok (.getfield 239, 3) := by decide +kernel
theorem dX11_tellLaw_179 : decode cX11_tellLaw 179 = .ok (.imul, 1) := by decide +kernel
theorem dX11_tellLaw_180 : decode cX11_tellLaw 180 = .ok (.iload_n 1, 1) := by decide +kernel
theorem dX11_tellLaw_181 : decode cX11_tellLaw 181 = .ok (.iadd, 1) := by decide +kernel
theorem dX11_tellLaw_182 : decode cX11_tellLaw 182 = .ok (.aload_n 0, 1) := by decide +kernel
theorem dX11_tellLaw_183 : decode cX11_tellLaw 183 = .ok (.getfield 245, 3) := by decide +kernel
theorem dX11_tellLaw_186 : decode cX11_tellLaw 186 = .ok (.iastore, 1) := by decide +kernel
theorem dX11_tellLaw_187 : decode cX11_tellLaw 187 = .ok (.return_, 1) := by decide +kernel
theorem dX11_term_0 : decode cX11_term 0 = .ok (.aload_n 0, 1) := by decide +kernel
theorem dX11_term_1 : decode cX11_term 1 = .ok (.getfield 95, 3) := by decide +kernel
theorem dX11_term_4 : decode cX11_term 4 = .ok (.aload_n 0, 1) := by decide +kernel
theorem dX11_term_5 : decode cX11_term 5 = .ok (.getfield 245, 3) := by decide +kernel
theorem dX11_term_8 : decode cX11_term 8 = .ok (.aload_n 0, 1) := by decide +kernel
theorem dX11_term_9 : decode cX11_term 9 = .ok (.getfield 248, 3) := by decide +kernel
theorem dX11_term_12 : decode cX11_term 12 = .ok (.iastore, 1) := by decide +kernel
theorem dX11_term_13 : decode cX11_term 13 = .ok (.aload_n 0, 1) := by decide +kernel
theorem dX11_term_14 : decode cX11_term 14 = .ok (.getfield 206, 3) := by decide +kernel
theorem dX11_term_17 : decode cX11_term 17 = .ok (.ifCond .ne 7, 3) := by decide +kernel
theorem dX11_term_20 : decode cX11_term 20 = .ok (.aload_n 0, 1) := by decide +kernel
theorem dX11_term_21 : decode cX11_term 21 = .ok (.invokevirtual 293, 3) := by decide +kernel
theorem dX11_term_24 : decode cX11_term 24 = .ok (.aload_n 0, 1) := by decide +kernel
theorem dX11_term_25 : decode cX11_term 25 = .ok (.getfield 98, 3) := by decide +kernel
theorem dX11_term_28 : decode cX11_term 28 = .ok (.aload_n 0, 1) := by decide +kernel
theorem dX11_term_29 : decode cX11_term 29 = .ok (.getfield 245, 3) := by decide +kernel
theorem dX11_term_32 : decode cX11_term 32 = .ok (.aload_n 0, 1) := by decide +kernel
theorem dX11_term_33 : decode cX11_term 33 = .ok (.getfield 248, 3) := by decide +kernel
theorem dX11_term_36 : decode cX11_term 36 = .ok (.iastore, 1) := by decide +kernel
theorem dX11_term_37 : decode cX11_term 37 = .ok (.aload_n 0, 1) := by decide +kernel
theorem dX11_term_38 : decode cX11_term 38 = .ok (.dup, 1) := by decide +kernel
theorem dX11_term_39 : decode cX11_term 39 = .ok (.getfield 245, 3) := by decide +kernel
theorem dX11_term_42 : decode cX11_term 42 = .ok (.iconst 1, 1) := by decide +kernel
theorem dX11_term_43 : decode cX11_term 43 = .ok (.iadd, 1) := by decide +kernel
theorem dX11_term_44 : decode cX11_term 44 = .ok (.putfield 245, 3) := by decide +kernel
theorem dX11_term_47 : decode cX11_term 47 = .ok (.return_, 1) := by decide +kernel
theorem dX11_emit_0 : decode cX11_emit 0 = .ok (.aload_n 0, 1) := by decide +kernel
theorem dX11_emit_1 : decode cX11_emit 1 = .ok (.getfield 101, 3) := by decide +kernel
theorem dX11_emit_4 : decode cX11_emit 4 = .ok (.aload_n 0, 1) := by decide +kernel
theorem dX11_emit_5 : decode cX11_emit 5 = .ok (.getfield 248, 3) := by decide +kernel
theorem dX11_emit_8 : decode cX11_emit 8 = .ok (.iload_n 1, 1) := by decide +kernel
theorem dX11_emit_9 : decode cX11_emit 9 = .ok (.iastore, 1) := by decide +kernel
theorem dX11_emit_10 : decode cX11_emit 10 = .ok (.aload_n 0, 1) := by decide +kernel
theorem dX11_emit_11 : decode cX11_emit 11 = .ok (.getfield 104, 3) := by decide +kernel
theorem dX11_emit_14 : decode cX11_emit 14 = .ok (.aload_n 0, 1) := by decide +kernel
theorem dX11_emit_15 : decode cX11_emit 15 = .ok (.getfield 248, 3) := by decide +kernel
theorem dX11_emit_18 : decode cX11_emit 18 = .ok (.iload_n 2, 1) := by decide +kernel
theorem dX11_emit_19 : decode cX11_emit 19 = .ok (.iastore, 1) := by decide +kernel
theorem dX11_emit_20 : decode cX11_emit 20 = .ok (.aload_n 0, 1) := by decide +kernel
theorem dX11_emit_21 : decode cX11_emit 21 = .ok (.dup, 1) := by decide +kernel
theorem dX11_emit_22 : decode cX11_emit 22 = .ok (.getfield 248, 3) := by decide +kernel
theorem dX11_emit_25 : decode cX11_emit 25 = .ok (.iconst 1, 1) := by decide +kernel
theorem dX11_emit_26 : decode cX11_emit 26 = .ok (.iadd, 1) := by decide +kernel
theorem dX11_emit_27 : decode cX11_emit 27 = .ok (.putfield 248, 3) := by decide +kernel
theorem dX11_emit_30 : decode cX11_emit 30 = .ok (.return_, 1) := by decide +kernel
theorem dX11_comesOut_0 : decode cX11_comesOut 0 = .ok (.aload_n 0, 1) := by decide +kernel
theorem dX11_comesOut_1 : decode cX11_comesOut 1 = .ok (.getfield 299, 3) := by decide +kernel
theorem dX11_comesOut_4 : decode cX11_comesOut 4 = .ok (.ifCond .le 87, 3) := by decide +kernel
theorem dX11_comesOut_7 : decode cX11_comesOut 7 = .ok (.aload_n 0, 1) := by decide +kernel
theorem dX11_comesOut_8 : decode cX11_comesOut 8 = .ok (.getfield 107, 3) := by decide +kernel
theorem dX11_comesOut_11 : decode cX11_comesOut 11 = .ok (.aload_n 0, 1) := by decide +kernel
theorem dX11_comesOut_12 : decode cX11_comesOut 12 = .ok (.getfield 299, 3) := by decide +kernel
theorem dX11_comesOut_15 : decode cX11_comesOut 15 = .ok (.iconst 1, 1) := by decide +kernel
theorem dX11_comesOut_16 : decode cX11_comesOut 16 = .ok (.isub, 1) := by decide +kernel
theorem dX11_comesOut_17 : decode cX11_comesOut 17 = .ok (.iaload, 1) := by decide +kernel
theorem dX11_comesOut_18 : decode cX11_comesOut 18 = .ok (.istore_n 2, 1) := by decide +kernel
theorem dX11_comesOut_19 : decode cX11_comesOut 19 = .ok (.iload_n 2, 1) := by decide +kernel
theorem dX11_comesOut_20 : decode cX11_comesOut 20 = .ok (.bipush 6, 2) := by decide +kernel
theorem dX11_comesOut_22 : decode cX11_comesOut 22 = .ok (.if_icmp .eq 19, 3) := by decide +kernel
theorem dX11_comesOut_25 : decode cX11_comesOut 25 = .ok (.iload_n 1, 1) := by decide +kernel
theorem dX11_comesOut_26 : decode cX11_comesOut 26 = .ok (.ifCond .eq 16, 3) := by decide +kernel
theorem dX11_comesOut_29 : decode cX11_comesOut 29 = .ok (.iload_n 2, 1) := by decide +kernel
theorem dX11_comesOut_30 : decode cX11_comesOut 30 = .ok (.bipush 8, 2) := by decide +kernel
theorem dX11_comesOut_32 : decode cX11_comesOut 32 = .ok (.if_icmp .eq 9, 3) := by decide +kernel
theorem dX11_comesOut_35 : decode cX11_comesOut 35 = .ok (.iload_n 2, 1) := by decide +kernel
theorem dX11_comesOut_36 : decode cX11_comesOut 36 = .ok (.bipush 9, 2) := by decide +kernel
theorem dX11_comesOut_38 : decode cX11_comesOut 38 = .ok (.if_icmp .ne 4, 3) := by decide +kernel
theorem dX11_comesOut_41 : decode cX11_comesOut 41 = .ok (.return_, 1) := by decide +kernel
theorem dX11_comesOut_42 : decode cX11_comesOut 42 = .ok (.aload_n 0, 1) := by decide +kernel
theorem dX11_comesOut_43 : decode cX11_comesOut 43 = .ok (.dup, 1) := by decide +kernel
theorem dX11_comesOut_44 : decode cX11_comesOut 44 = .ok (.getfield 299, 3) := by decide +kernel
theorem dX11_comesOut_47 : decode cX11_comesOut 47 = .ok (.iconst 1, 1) := by decide +kernel
theorem dX11_comesOut_48 : decode cX11_comesOut 48 = .ok (.isub, 1) := by decide +kernel
theorem dX11_comesOut_49 : decode cX11_comesOut 49 = .ok (.putfield 299, 3) := by decide +kernel
theorem dX11_comesOut_52 : decode cX11_comesOut 52 = .ok (.aload_n 0, 1) := by decide +kernel
theorem dX11_comesOut_53 : decode cX11_comesOut 53 = .ok (.iload_n 2, 1) := by decide +kernel
theorem dX11_comesOut_54 : decode cX11_comesOut 54 = .ok (.bipush 8, 2) := by decide +kernel
theorem dX11_comesOut_56 : decode cX11_comesOut 56 = .ok (.if_icmp .ne 7, 3) := by decide +kernel
theorem dX11_comesOut_59 : decode cX11_comesOut 59 = .ok (.iconst 2, 1) := by decide +kernel
theorem dX11_comesOut_60 : decode cX11_comesOut 60 = .ok (.goto 24, 3) := by decide +kernel
theorem dX11_comesOut_63 : decode cX11_comesOut 63 = .ok (.iload_n 2, 1) := by decide +kernel
theorem dX11_comesOut_64 : decode cX11_comesOut 64 = .ok (.bipush 9, 2) := by decide +kernel
theorem dX11_comesOut_66 : decode cX11_comesOut 66 = .ok (.if_icmp .ne 7, 3) := by decide +kernel
theorem dX11_comesOut_69 : decode cX11_comesOut 69 = .ok (.iconst 3, 1) := by decide +kernel
theorem dX11_comesOut_70 : decode cX11_comesOut 70 = .ok (.goto 14, 3) := by decide +kernel
theorem dX11_comesOut_73 : decode cX11_comesOut 73 = .ok (.iload_n 2, 1) := by decide +kernel
theorem dX11_comesOut_74 : decode cX11_comesOut 74 = .ok (.bipush 10, 2) := by decide +kernel
theorem dX11_comesOut_76 : decode cX11_comesOut 76 = .ok (.if_icmp .ne 7, 3) := by decide +kernel
theorem dX11_comesOut_79 : decode cX11_comesOut 79 = .ok (.iconst 4, 1) := by decide +kernel
theorem dX11_comesOut_80 : decode cX11_comesOut 80 = .ok (.goto 4, 3) := by decide +kernel
theorem dX11_comesOut_83 : decode cX11_comesOut 83 = .ok (.iconst 5, 1) := by decide +kernel
theorem dX11_comesOut_84 : decode cX11_comesOut 84 = .ok (.iconst 0, 1) := by decide +kernel
theorem dX11_comesOut_85 : decode cX11_comesOut 85 = .ok (.invokevirtual 302, 3) := by decide +kernel
theorem dX11_comesOut_88 : decode cX11_comesOut 88 = .ok (.goto (-88), 3) := by decide +kernel
theorem dX11_comesOut_91 : decode cX11_comesOut 91 = .ok (.return_, 1) := by decide +kernel
theorem dX11_expression_0 : decode cX11_expression 0 = .ok (.aload_n 0, 1) := by decide +kernel
theorem dX11_expression_1 : decode cX11_expression 1 = .ok (.iconst 0, 1) := by decide +kernel
theorem dX11_expression_2 : decode cX11_expression 2 = .ok (.putfield 299, 3) := by decide +kernel
theorem dX11_expression_5 : decode cX11_expression 5 = .ok (.aload_n 0, 1) := by decide +kernel
theorem dX11_expression_6 : decode cX11_expression 6 = .ok (.getfield 233, 3) := by decide +kernel
theorem dX11_expression_9 : decode cX11_expression 9 = .ok (.istore_n 1, 1) := by decide +kernel
theorem dX11_expression_10 : decode cX11_expression 10 = .ok (.iconst 1, 1) := by decide +kernel
theorem dX11_expression_11 : decode cX11_expression 11 = .ok (.istore_n 2, 1) := by decide +kernel
theorem dX11_expression_12 : decode cX11_expression 12 = .ok (.iload_n 2, 1) := by decide +kernel
theorem dX11_expression_13 : decode cX11_expression 13 = .ok (.ifCond .eq 259, 3) := by decide +kernel
theorem dX11_expression_16 : decode cX11_expression 16 = .ok (.aload_n 0, 1) := by decide +kernel
theorem dX11_expression_17 : decode cX11_expression 17 = .ok (.getfield 206, 3) := by decide +kernel
theorem dX11_expression_20 : decode cX11_expression 20 = .ok (.ifCond .ne 252, 3) := by decide +kernel
theorem dX11_expression_23 : decode cX11_expression 23 = .ok (.aload_n 0, 1) := by decide +kernel
theorem dX11_expression_24 : decode cX11_expression 24 = .ok (.bipush 6, 2) := by decide +kernel
theorem dX11_expression_26 : decode cX11_expression 26 = .ok (.invokevirtual 224, 3) := by decide +kernel
theorem dX11_expression_29 : decode cX11_expression 29 = .ok (.ifCond .eq 55, 3) := by decide +kernel
theorem dX11_expression_32 : decode cX11_expression 32 = .ok (.aload_n 0, 1) := by decide +kernel
theorem dX11_expression_33 : decode cX11_expression 33 = .ok (.getfield 233, 3) := by decide +kernel
theorem dX11_expression_36 : decode cX11_expression 36 = .ok (.bipush 6, 2) := by decide +kernel
theorem dX11_expression_38 : decode cX11_expression 38 = .ok (.if_icmp .ne 8, 3) := by decide +kernel
theorem dX11_expression_41 : decode cX11_expression 41 = .ok (.aload_n 0, 1) := by decide +kernel
theorem dX11_expression_42 : decode cX11_expression 42 = .ok (.iconst 2, 1) := by decide +kernel
theorem dX11_expression_43 : decode cX11_expression 43 = .ok (.invokevirtual 221, 3) := by decide +kernel
theorem dX11_expression_46 : decode cX11_expression 46 = .ok (.aload_n 0, 1) := by decide +kernel
theorem dX11_expression_47 : decode cX11_expression 47 = .ok (.dup, 1) := by decide +kernel
theorem dX11_expression_48 : decode cX11_expression 48 = .ok (.getfield 233, 3) := by decide +kernel
theorem dX11_expression_51 : decode cX11_expression 51 = .ok (.iconst 1, 1) := by decide +kernel
theorem dX11_expression_52 : decode cX11_expression 52 = .ok (.iadd, 1) := by decide +kernel
theorem dX11_expression_53 : decode cX11_expression 53 = .ok (.putfield 233, 3) := by decide +kernel
theorem dX11_expression_56 : decode cX11_expression 56 = .ok (.aload_n 0, 1) := by decide +kernel
theorem dX11_expression_57 : decode cX11_expression 57 = .ok (.invokevirtual 227, 3) := by decide +kernel
theorem dX11_expression_60 : decode cX11_expression 60 = .ok (.aload_n 0, 1) := by decide +kernel
theorem dX11_expression_61 : decode cX11_expression 61 = .ok (.getfield 107, 3) := by decide +kernel
theorem dX11_expression_64 : decode cX11_expression 64 = .ok (.aload_n 0, 1) := by decide +kernel
theorem dX11_expression_65 : decode cX11_expression 65 = .ok (.getfield 299, 3) := by decide +kernel
theorem dX11_expression_68 : decode cX11_expression 68 = .ok (.bipush 6, 2) := by decide +kernel
theorem dX11_expression_70 : decode cX11_expression 70 = .ok (.iastore, 1) := by decide +kernel
theorem dX11_expression_71 : decode cX11_expression 71 = .ok (.aload_n 0, 1) := by decide +kernel
theorem dX11_expression_72 : decode cX11_expression 72 = .ok (.dup, 1) := by decide +kernel
theorem dX11_expression_73 : decode cX11_expression 73 = .ok (.getfield 299, 3) := by decide +kernel
theorem dX11_expression_76 : decode cX11_expression 76 = .ok (.iconst 1, 1) := by decide +kernel
theorem dX11_expression_77 : decode cX11_expression 77 = .ok (.iadd, 1) := by decide +kernel
theorem dX11_expression_78 : decode cX11_expression 78 = .ok (.putfield 299, 3) := by decide +kernel
theorem dX11_expression_81 : decode cX11_expression 81 = .ok (.goto (-58), 3) := by decide +kernel
theorem dX11_expression_84 : decode cX11_expression 84 = .ok (.aload_n 0, 1) := by decide +kernel
theorem dX11_expression_85 : decode cX11_expression 85 = .ok (.invokevirtual 305, 3) := by decide +kernel
theorem dX11_expression_88 : decode cX11_expression 88 = .ok (.aload_n 0, 1) := by decide +kernel
theorem dX11_expression_89 : decode cX11_expression 89 = .ok (.getfield 206, 3) := by decide +kernel
theorem dX11_expression_92 : decode cX11_expression 92 = .ok (.ifCond .le 4, 3) := by decide +kernel
theorem dX11_expression_95 : decode cX11_expression 95 = .ok (.return_, 1) := by decide +kernel
theorem dX11_expression_96 : decode cX11_expression 96 = .ok (.aload_n 0, 1) := by decide +kernel
theorem dX11_expression_97 : decode cX11_expression 97 = .ok (.bipush 7, 2) := by decide +kernel
theorem dX11_expression_99 : decode cX11_expression 99 = .ok (.invokevirtual 224, 3) := by decide +kernel
theorem dX11_expression_102 : decode cX11_expression 102 = .ok (.ifCond .eq 43, 3) := by decide +kernel
theorem dX11_expression_105 : decode cX11_expression 105 = .ok (.aload_n 0, 1) := by decide +kernel
theorem dX11_expression_106 : decode cX11_expression 106 = .ok (.getfield 233, 3) := by decide +kernel
theorem dX11_expression_109 : decode cX11_expression 109 = .ok (.iload_n 1, 1) := by decide +kernel
theorem dX11_expression_110 : decode cX11_expression 110 = .ok (.if_icmp .le 35, 3) := by decide +kernel
theorem dX11_expression_113 : decode cX11_expression 113 = .ok (.aload_n 0, 1) := by decide +kernel
theorem dX11_expression_114 : decode cX11_expression 114 = .ok (.iconst 0, 1) := by decide +kernel
theorem dX11_expression_115 : decode cX11_expression 115 = .ok (.invokevirtual 308, 3) := by decide +kernel
theorem dX11_expression_118 : decode cX11_expression 118 = .ok (.aload_n 0, 1) := by decide +kernel
theorem dX11_expression_119 : decode cX11_expression 119 = .ok (.dup, 1) := by decide +kernel
theorem dX11_expression_120 : decode cX11_expression 120 = .ok (.getfield 299, 3) := by decide +kernel
theorem dX11_expression_123 : decode cX11_expression 123 = .ok (.iconst 1, 1) := by decide +kernel
theorem dX11_expression_124 : decode cX11_expression 124 = .ok (.isub, 1) := by decide +kernel
theorem dX11_expression_125 : decode cX11_expression 125 = .ok (.putfield 299, 3) := by decide +kernel
theorem dX11_expression_128 : decode cX11_expression 128 = .ok (.aload_n 0, 1) := by decide +kernel
theorem dX11_expression_129 : decode cX11_expression 129 = .ok (.dup, 1) := by decide +kernel
theorem dX11_expression_130 : decode cX11_expression 130 = .ok (.getfield 233, 3) := by decide +kernel
theorem dX11_expression_133 : decode cX11_expression 133 = .ok (.iconst 1, 1) := by decide +kernel
theorem dX11_expression_134 : decode cX11_expression 134 = .ok (.isub, 1) := by decide +kernel
theorem dX11_expression_135 : decode cX11_expression 135 = .ok (.putfield 233, 3) := by decide +kernel
theorem dX11_expression_138 : decode cX11_expression 138 = .ok (.aload_n 0, 1) := by decide +kernel
theorem dX11_expression_139 : decode cX11_expression 139 = .ok (.invokevirtual 227, 3) := by decide +kernel
theorem dX11_expression_142 : decode cX11_expression 142 = .ok (.goto (-46), 3) := by decide +kernel
theorem dX11_expression_145 : decode cX11_expression 145 = .ok (.aload_n 0, 1) := by decide +kernel
theorem dX11_expression_146 : decode cX11_expression 146 = .ok (.bipush 8, 2) := by decide +kernel
theorem dX11_expression_148 : decode cX11_expression 148 = .ok (.invokevirtual 224, 3) := by decide +kernel
theorem dX11_expression_151 : decode cX11_expression 151 = .ok (.ifCond .ne 30, 3) := by decide +kernel
theorem dX11_expression_154 : decode cX11_expression 154 = .ok (.aload_n 0, 1) := by decide +kernel
theorem dX11_expression_155 : decode cX11_expression 155 = .ok (.bipush 9, 2) := by decide +kernel
theorem dX11_expression_157 : decode cX11_expression 157 = .ok (.invokevirtual 224, 3) := by decide +kernel
theorem dX11_expression_160 : decode cX11_expression 160 = .ok (.ifCond .ne 21, 3) := by decide +kernel
theorem dX11_expression_163 : decode cX11_expression 163 = .ok (.aload_n 0, 1) := by decide +kernel
theorem dX11_expression_164 : decode cX11_expression 164 = .ok (.bipush 10, 2) := by decide +kernel
theorem dX11_expression_166 : decode cX11_expression 166 = .ok (.invokevirtual 224, 3) := by decide +kernel
theorem dX11_expression_169 : decode cX11_expression 169 = .ok (.ifCond .ne 12, 3) := by decide +kernel
theorem dX11_expression_172 : decode cX11_expression 172 = .ok (.aload_n 0, 1) := by decide +kernel
theorem dX11_expression_173 : decode cX11_expression 173 = .ok (.bipush 15, 2) := by decide +kernel
theorem dX11_expression_175 : decode cX11_expression 175 = .ok (.invokevirtual 224, 3) := by decide +kernel
theorem dX11_expression_178 : decode cX11_expression 178 = .ok (.ifCond .eq 7, 3) := by decide +kernel
theorem dX11_expression_181 : decode cX11_expression 181 = .ok (.iconst 1, 1) := by decide +kernel
theorem dX11_expression_182 : decode cX11_expression 182 = .ok (.goto 4, 3) := by decide +kernel
theorem dX11_expression_185 : decode cX11_expression 185 = .ok (.iconst 0, 1) := by decide +kernel
theorem dX11_expression_186 : decode cX11_expression 186 = .ok (.istore_n 2, 1) := by decide +kernel
theorem dX11_expression_187 : decode cX11_expression 187 = .ok (.iload_n 2, 1) := by decide +kernel
theorem dX11_expression_188 : decode cX11_expression 188 = .ok (.ifCond .ne 22, 3) := by decide +kernel
theorem dX11_expression_191 : decode cX11_expression 191 = .ok (.aload_n 0, 1) := by decide +kernel
theorem dX11_expression_192 : decode cX11_expression 192 = .ok (.getfield 233, 3) := by decide +kernel
theorem dX11_expression_195 : decode cX11_expression 195 = .ok (.iload_n 1, 1) := by decide +kernel
theorem dX11_expression_196 : decode cX11_expression 196 = .ok (.if_icmp .le 8, 3) := by decide +kernel
theorem dX11_expression_199 : decode cX11_expression 199 = .ok (.aload_n 0, 1) := by decide +kernel
theorem dX11_expression_200 : decode cX11_expression 200 = .ok (.iconst 1, 1) := by decide +kernel
theorem dX11_expression_201 : decode cX11_expression 201 = .ok (.invokevirtual 221, 3) := by decide +kernel
theorem dX11_expression_204 : decode cX11_expression 204 = .ok (.aload_n 0, 1) := by decide +kernel
theorem dX11_expression_205 : decode cX11_expression 205 = .ok (.iconst 0, 1) := by decide +kernel
theorem dX11_expression_206 : decode cX11_expression 206 = .ok (.invokevirtual 308, 3) := by decide +kernel
theorem dX11_expression_209 : decode cX11_expression 209 = .ok (.return_, 1) := by decide +kernel
theorem dX11_expression_210 : decode cX11_expression 210 = .ok (.aload_n 0, 1) := by decide +kernel
theorem dX11_expression_211 : decode cX11_expression 211 = .ok (.aload_n 0, 1) := by decide +kernel
theorem dX11_expression_212 : decode cX11_expression 212 = .ok (.bipush 10, 2) := by decide +kernel
theorem dX11_expression_214 : decode cX11_expression 214 = .ok (.invokevirtual 224, 3) := by decide +kernel
theorem dX11_expression_217 : decode cX11_expression 217 = .ok (.ifCond .ne 12, 3) := by decide +kernel
theorem dX11_expression_220 : decode cX11_expression 220 = .ok (.aload_n 0, 1) := by decide +kernel
theorem dX11_expression_221 : decode cX11_expression 221 = .ok (.bipush 15, 2) := by decide +kernel
theorem dX11_expression_223 : decode cX11_expression 223 = .ok (.invokevirtual 224, 3) := by decide +kernel
theorem dX11_expression_226 : decode cX11_expression 226 = .ok (.ifCond .eq 7, 3) := by decide +kernel
theorem dX11_expression_229 : decode cX11_expression 229 = .ok (.iconst 1, 1) := by decide +kernel
theorem dX11_expression_230 : decode cX11_expression 230 = .ok (.goto 4, 3) := by decide +kernel
theorem dX11_expression_233 : decode cX11_expression 233 = .ok (.iconst 0, 1) := by decide +kernel
theorem dX11_expression_234 : decode cX11_expression 234 = .ok (.invokevirtual 308, 3) := by decide +kernel
theorem dX11_expression_237 : decode cX11_expression 237 = .ok (.aload_n 0, 1) := by decide +kernel
theorem dX11_expression_238 : decode cX11_expression 238 = .ok (.getfield 107, 3) := by decide +kernel
theorem dX11_expression_241 : decode cX11_expression 241 = .ok (.aload_n 0, 1) := by decide +kernel
theorem dX11_expression_242 : decode cX11_expression 242 = .ok (.getfield 299, 3) := by decide +kernel
theorem dX11_expression_245 : decode cX11_expression 245 = .ok (.aload_n 0, 1) := by decide +kernel
theorem dX11_expression_246 : decode cX11_expression 246 = .ok (.getfield 20, 3) := by decide +kernel
theorem dX11_expression_249 : decode cX11_expression 249 = .ok (.aload_n 0, 1) := by decide +kernel
theorem dX11_expression_250 : decode cX11_expression 250 = .ok (.getfield 209, 3) := by decide +kernel
theorem dX11_expression_253 : decode cX11_expression 253 = .ok (.iaload, 1) := by decide +kernel
theorem dX11_expression_254 : decode cX11_expression 254 = .ok (.iastore, 1) := by decide +kernel
theorem dX11_expression_255 : decode cX11_expression 255 = .ok (.aload_n 0, 1) := by decide +kernel
theorem dX11_expression_256 : decode cX11_expression 256 = .ok (.dup, 1) := by decide +kernel
theorem dX11_expression_257 : decode cX11_expression 257 = .ok (.getfield 299, 3) := by decide +kernel
theorem dX11_expression_260 : decode cX11_expression 260 = .ok (.iconst 1, 1) := by decide +kernel
theorem dX11_expression_261 : decode cX11_expression 261 = .ok (.iadd, 1) := by decide +kernel
theorem dX11_expression_262 : decode cX11_expression 262 = .ok (.putfield 299, 3) := by decide +kernel
theorem dX11_expression_265 : decode cX11_expression 265 = .ok (.aload_n 0, 1) := by decide +kernel
theorem dX11_expression_266 : decode cX11_expression 266 = .ok (.invokevirtual 227, 3) := by decide +kernel
theorem dX11_expression_269 : decode cX11_expression 269 = .ok (.goto (-257), 3) := by decide +kernel
theorem dX11_expression_272 : decode cX11_expression 272 = .ok (.return_, 1) := by decide +kernel
theorem dX11_unit_0 : decode cX11_unit 0 = .ok (.aload_n 0, 1) := by decide +kernel
theorem dX11_unit_1 : decode cX11_unit 1 = .ok (.iconst 2, 1) := by decide +kernel
theorem dX11_unit_2 : decode cX11_unit 2 = .ok (.invokevirtual 224, 3) := by decide +kernel
theorem dX11_unit_5 : decode cX11_unit 5 = .ok (.ifCond .eq 24, 3) := by decide +kernel
theorem dX11_unit_8 : decode cX11_unit 8 = .ok (.aload_n 0, 1) := by decide +kernel
theorem dX11_unit_9 : decode cX11_unit 9 = .ok (.iconst 0, 1) := by decide +kernel
theorem dX11_unit_10 : decode cX11_unit 10 = .ok (.aload_n 0, 1) := by decide +kernel
theorem dX11_unit_11 : decode cX11_unit 11 = .ok (.getfield 27, 3) := by decide +kernel
theorem dX11_unit_14 : decode cX11_unit 14 = .ok (.aload_n 0, 1) := by decide +kernel
theorem dX11_unit_15 : decode cX11_unit 15 = .ok (.getfield 209, 3) := by decide +kernel
theorem dX11_unit_18 : decode cX11_unit 18 = .ok (.iaload, 1) := by decide +kernel
theorem dX11_unit_19 : decode cX11_unit 19 = .ok (.invokevirtual 302, 3) := by decide +kernel
theorem dX11_unit_22 : decode cX11_unit 22 = .ok (.aload_n 0, 1) := by decide +kernel
theorem dX11_unit_23 : decode cX11_unit 23 = .ok (.invokevirtual 227, 3) := by decide +kernel
theorem dX11_unit_26 : decode cX11_unit 26 = .ok (.goto 67, 3) := by decide +kernel
theorem dX11_unit_29 : decode cX11_unit 29 = .ok (.aload_n 0, 1) := by decide +kernel
theorem dX11_unit_30 : decode cX11_unit 30 = .ok (.getfield 206, 3) := by decide +kernel
theorem dX11_unit_33 : decode cX11_unit 33 = .ok (.ifCond .ne 55, 3) := by decide +kernel
theorem dX11_unit_36 : decode cX11_unit 36 = .ok (.aload_n 0, 1) := by decide +kernel
theorem dX11_unit_37 : decode cX11_unit 37 = .ok (.getfield 20, 3) := by decide +kernel
theorem dX11_unit_40 : decode cX11_unit 40 = .ok (.aload_n 0, 1) := by decide +kernel
theorem dX11_unit_41 : decode cX11_unit 41 = .ok (.getfield 209, 3) := by decide +kernel
theorem dX11_unit_44 : decode cX11_unit 44 = .ok (.iaload, 1) := by decide +kernel
theorem dX11_unit_45 : decode cX11_unit 45 = .ok (.bipush 32, 2) := by decide +kernel
theorem dX11_unit_47 : decode cX11_unit 47 = .ok (.if_icmp .lt 41, 3) := by decide +kernel
theorem dX11_unit_50 : decode cX11_unit 50 = .ok (.aload_n 0, 1) := by decide +kernel
theorem dX11_unit_51 : decode cX11_unit 51 = .ok (.getfield 20, 3) := by decide +kernel
theorem dX11_unit_54 : decode cX11_unit 54 = .ok (.aload_n 0, 1) := by decide +kernel
theorem dX11_unit_55 : decode cX11_unit 55 = .ok (.getfield 209, 3) := by decide +kernel
theorem dX11_unit_58 : decode cX11_unit 58 = .ok (.iaload, 1) := by decide +kernel
theorem dX11_unit_59 : decode cX11_unit 59 = .ok (.bipush 40, 2) := by decide +kernel
theorem dX11_unit_61 : decode cX11_unit 61 = .ok (.if_icmp .gt 27, 3) := by decide +kernel
theorem dX11_unit_64 : decode cX11_unit 64 = .ok (.aload_n 0, 1) := by decide +kernel
theorem dX11_unit_65 : decode cX11_unit 65 = .ok (.iconst 1, 1) := by decide +kernel
theorem dX11_unit_66 : decode cX11_unit 66 = .ok (.aload_n 0, 1) := by decide +kernel
theorem dX11_unit_67 : decode cX11_unit 67 = .ok (.getfield 20, 3) := by decide +kernel
theorem dX11_unit_70 : decode cX11_unit 70 = .ok (.aload_n 0, 1) := by decide +kernel
theorem dX11_unit_71 : decode cX11_unit 71 = .ok (.getfield 209, 3) := by decide +kernel
theorem dX11_unit_74 : decode cX11_unit 74 = .ok (.iaload, 1) := by decide +kernel
theorem dX11_unit_75 : decode cX11_unit 75 = .ok (.bipush 32, 2) := by decide +kernel
theorem dX11_unit_77 : decode cX11_unit 77 = .ok (.isub, 1) := by decide +kernel
theorem dX11_unit_78 : decode cX11_unit 78 = .ok (.invokevirtual 302, 3) := by decide +kernel
theorem dX11_unit_81 : decode cX11_unit 81 = .ok (.aload_n 0, 1) := by decide +kernel
theorem dX11_unit_82 : decode cX11_unit 82 = .ok (.invokevirtual 227, 3) := by decide +kernel
theorem dX11_unit_85 : decode cX11_unit 85 = .ok (.goto 8, 3) := by decide +kernel
theorem dX11_unit_88 : decode cX11_unit 88 = .ok (.aload_n 0, 1) := by decide +kernel
theorem dX11_unit_89 : decode cX11_unit 89 = .ok (.iconst 1, 1) := by decide +kernel
theorem dX11_unit_90 : decode cX11_unit 90 = .ok (.invokevirtual 221, 3) := by decide +kernel
theorem dX11_unit_93 : decode cX11_unit 93 = .ok (.return_, 1) := by decide +kernel
theorem dX11_termOf_0 : decode cX11_termOf 0 = .ok (.iconst 0, 1) := by decide +kernel
theorem dX11_termOf_1 : decode cX11_termOf 1 = .ok (.istore_n 3, 1) := by decide +kernel
theorem dX11_termOf_2 : decode cX11_termOf 2 = .ok (.iload_n 1, 1) := by decide +kernel
theorem dX11_termOf_3 : decode cX11_termOf 3 = .ok (.istore 4, 2) := by decide +kernel
theorem dX11_termOf_5 : decode cX11_termOf 5 = .ok (.iload 4, 2) := by decide +kernel
theorem dX11_termOf_7 : decode cX11_termOf 7 = .ok (.iload_n 2, 1) := by decide +kernel
theorem dX11_termOf_8 : decode cX11_termOf 8 = .ok (.if_icmp .ge 157, 3) := by decide +kernel
theorem dX11_termOf_11 : decode cX11_termOf 11 = .ok (.aload_n 0, 1) := by decide +kernel
theorem dX11_termOf_12 : decode cX11_termOf 12 = .ok (.getfield 101, 3) := by decide +kernel
theorem dX11_termOf_15 : decode cX11_termOf 15 = .ok (.iload 4, 2) := by decide +kernel
theorem dX11_termOf_17 : decode cX11_termOf 17 = .ok (.iaload, 1) := by decide +kernel
theorem dX11_termOf_18 : decode cX11_termOf 18 = .ok (.istore 5, 2) := by decide +kernel
theorem dX11_termOf_20 : decode cX11_termOf 20 = .ok (.iload 5, 2) := by decide +kernel
theorem dX11_termOf_22 : decode cX11_termOf 22 = .ok (.iconst 2, 1) := by decide +kernel
theorem dX11_termOf_23 : decode cX11_termOf 23 = .ok (.if_icmp .ge 42, 3) := by decide +kernel
theorem dX11_termOf_26 : decode cX11_termOf 26 = .ok (.aload_n 0, 1) := by decide +kernel
theorem dX11_termOf_27 : decode cX11_termOf 27 = .ok (.getfield 113, 3) := by decide +kernel
theorem dX11_termOf_30 : decode cX11_termOf 30 = .ok (.iload_n 3, 1) := by decide +kernel
theorem dX11_termOf_31 : decode cX11_termOf 31 = .ok (.iload 5, 2) := by decide +kernel
theorem dX11_termOf_33 : decode cX11_termOf 33 = .ok (.ifCond .ne 13, 3) := by decide +kernel
theorem dX11_termOf_36 : decode cX11_termOf 36 = .ok (.aload_n 0, 1) := by decide +kernel
theorem dX11_termOf_37 : decode cX11_termOf 37 = .ok (.getfield 104, 3) := by decide +kernel
theorem dX11_termOf_40 : decode cX11_termOf 40 = .ok (.iload 4, 2) := by decide +kernel
theorem dX11_termOf_42 : decode cX11_termOf 42 = .ok (.iaload, 1) := by decide +kernel
theorem dX11_termOf_43 : decode cX11_termOf 43 = .ok (.goto 15, 3) := by decide +kernel
theorem dX11_termOf_46 : decode cX11_termOf 46 = .ok (.aload_n 0, 1) := by decide +kernel
theorem dX11_termOf_47 : decode cX11_termOf 47 = .ok (.getfield 110, 3) := by decide +kernel
theorem dX11_termOf_50 : decode cX11_termOf 50 = .ok (.aload_n 0, 1) := by decide +kernel
theorem dX11_termOf_51 : decode cX11_termOf 51 = .ok (.getfield 104, 3) := by decide +kernel
theorem dX11_termOf_54 : decode cX11_termOf 54 = .ok (.iload 4, 2) := by decide +kernel
theorem dX11_termOf_56 : decode cX11_termOf 56 = .ok (.iaload, 1) := by decide +kernel
theorem dX11_termOf_57 : decode cX11_termOf 57 = .ok (.iaload, 1) := by decide +kernel
theorem dX11_termOf_58 : decode cX11_termOf 58 = .ok (.iastore, 1) := by decide +kernel
theorem dX11_termOf_59 : decode cX11_termOf 59 = .ok (.iinc 3 1, 3) := by decide +kernel
theorem dX11_termOf_62 : decode cX11_termOf 62 = .ok (.goto 97, 3) := by decide +kernel
theorem dX11_termOf_65 : decode cX11_termOf 65 = .ok (.iinc 3 (-1), 3) := by decide +kernel
theorem dX11_termOf_68 : decode cX11_termOf 68 = .ok (.aload_n 0, 1) := by decide +kernel
theorem dX11_termOf_69 : decode cX11_termOf 69 = .ok (.getfield 113, 3) := by decide +kernel
theorem dX11_termOf_72 : decode cX11_termOf 72 = .ok (.iload_n 3, 1) := by decide +kernel
theorem dX11_termOf_73 : decode cX11_termOf 73 = .ok (.iconst 1, 1) := by decide +kernel
theorem dX11_termOf_74 : decode cX11_termOf 74 = .ok (.isub, 1) := by decide +kernel
theorem dX11_termOf_75 : decode cX11_termOf 75 = .ok (.iaload, 1) := by decide +kernel
theorem dX11_termOf_76 : decode cX11_termOf 76 = .ok (.istore 6, 2) := by decide +kernel
theorem dX11_termOf_78 : decode cX11_termOf 78 = .ok (.aload_n 0, 1) := by decide +kernel
theorem dX11_termOf_79 : decode cX11_termOf 79 = .ok (.getfield 113, 3) := by decide +kernel
theorem dX11_termOf_82 : decode cX11_termOf 82 = .ok (.iload_n 3, 1) := by decide +kernel
theorem dX11_termOf_83 : decode cX11_termOf 83 = .ok (.iaload, 1) := by decide +kernel
theorem dX11_termOf_84 : decode cX11_termOf 84 = .ok (.istore 7, 2) := by decide +kernel
theorem dX11_termOf_86 : decode cX11_termOf 86 = .ok (.iload 5, 2) := by decide +kernel
theorem dX11_termOf_88 : decode cX11_termOf 88 = .ok (.iconst 5, 1) := by decide +kernel
theorem dX11_termOf_89 : decode cX11_termOf 89 = .ok (.if_icmp .ne 15, 3) := by decide +kernel
theorem dX11_termOf_92 : decode cX11_termOf 92 = .ok (.iload 7, 2) := by decide +kernel
theorem dX11_termOf_94 : decode cX11_termOf 94 = .ok (.ifCond .ne 10, 3) := by decide +kernel
theorem dX11_termOf_97 : decode cX11_termOf 97 = .ok (.aload_n 0, 1) := by decide +kernel
theorem dX11_termOf_98 : decode cX11_termOf 98 = .ok (.iconst 1, 1) := by decide +kernel
theorem dX11_termOf_99 : decode cX11_termOf 99 = .ok (.putfield 312, 3) := by decide +kernel
theorem dX11_termOf_102 : decode cX11_termOf 102 = .ok (.iconst 0, 1) := by decide +kernel
theorem dX11_termOf_103 : decode cX11_termOf 103 = .ok (.ireturn, 1) := by decide +kernel
theorem dX11_termOf_104 : decode cX11_termOf 104 = .ok (.aload_n 0, 1) := by decide +kernel
theorem dX11_termOf_105 : decode cX11_termOf 105 = .ok (.getfield 113, 3) := by decide +kernel
theorem dX11_termOf_108 : decode cX11_termOf 108 = .ok (.iload_n 3, 1) := by decide +kernel
theorem dX11_termOf_109 : decode cX11_termOf 109 = .ok (.iconst 1, 1) := by decide +kernel
theorem dX11_termOf_110 : decode cX11_termOf 110 = .ok (.isub, 1) := by decide +kernel
theorem dX11_termOf_111 : decode cX11_termOf 111 = .ok (.iload 5, 2) := by decide +kernel
theorem dX11_termOf_113 : decode cX11_termOf 113 = .ok (.iconst 2, 1) := by decide +kernel
theorem dX11_termOf_114 : decode cX11_termOf 114 = .ok (.if_icmp .ne 11, 3) := by decide +kernel
theorem dX11_termOf_117 : decode cX11_termOf 117 = .ok (.iload 6, 2) := by decide +kernel
theorem dX11_termOf_119 : decode cX11_termOf 119 = .ok (.iload 7, 2) := by decide +kernel
theorem dX11_termOf_121 : decode cX11_termOf 121 = .ok (.iadd, 1) := by decide +kernel
theorem dX11_termOf_122 : decode cX11_termOf 122 = .ok (.goto 36, 3) := by decide +kernel
theorem dX11_termOf_125 : decode cX11_termOf 125 = .ok (.iload 5, 2) := by decide +kernel
theorem dX11_termOf_127 : decode cX11_termOf 127 = .ok (.iconst 3, 1) := by decide +kernel
theorem dX11_termOf_128 : decode cX11_termOf 128 = .ok (.if_icmp .ne 11, 3) := by decide +kernel
theorem dX11_termOf_131 : decode cX11_termOf 131 = .ok (.iload 6, 2) := by decide +kernel
theorem dX11_termOf_133 : decode cX11_termOf 133 = .ok (.iload 7, 2) := by decide +kernel
theorem dX11_termOf_135 : decode cX11_termOf 135 = .ok (.isub, 1) := by decide +kernel
theorem dX11_termOf_136 : decode cX11_termOf 136 = .ok (.goto 22, 3) := by decide +kernel
theorem dX11_termOf_139 : decode cX11_termOf 139 = .ok (.iload 5, 2) := by decide +kernel
theorem dX11_termOf_141 : decode cX11_termOf 141 = .ok (.iconst 4, 1) := by decide +kernel
theorem dX11_termOf_142 : decode cX11_termOf 142 = .ok (.if_icmp .ne 11, 3) := by decide +kernel
theorem dX11_termOf_145 : decode cX11_termOf 145 = .ok (.iload 6, 2) := by decide +kernel
theorem dX11_termOf_147 : decode cX11_termOf 147 = .ok (.iload 7, 2) := by decide +kernel
theorem dX11_termOf_149 : decode cX11_termOf 149 = .ok (.imul, 1) := by decide +kernel
theorem dX11_termOf_150 : decode cX11_termOf 150 = .ok (.goto 8, 3) := by decide +kernel
theorem dX11_termOf_153 : decode cX11_termOf 153 = .ok (.iload 6, 2) := by decide +kernel
theorem dX11_termOf_155 : decode cX11_termOf 155 = .ok (.iload 7, 2) := by decide +kernel
theorem dX11_termOf_157 : decode cX11_termOf 157 = .ok (.idiv, 1) := by decide +kernel
theorem dX11_termOf_158 : decode cX11_termOf 158 = .ok (.iastore, 1) := by decide +kernel
theorem dX11_termOf_159 : decode cX11_termOf 159 = .ok (.iinc 4 1, 3) := by decide +kernel
theorem dX11_termOf_162 : decode cX11_termOf 162 = .ok (.goto (-157), 3) := by decide +kernel
theorem dX11_termOf_165 : decode cX11_termOf 165 = .ok (.aload_n 0, 1) := by decide +kernel
theorem dX11_termOf_166 : decode cX11_termOf 166 = .ok (.getfield 113, 3) := by decide +kernel
theorem dX11_termOf_169 : decode cX11_termOf 169 = .ok (.iconst 0, 1) := by decide +kernel
theorem dX11_termOf_170 : decode cX11_termOf 170 = .ok (.iaload, 1) := by decide +kernel
theorem dX11_termOf_171 : decode cX11_termOf 171 = .ok (.ireturn, 1) := by decide +kernel
theorem dX11_in_0 : decode cX11_in 0 = .ok (.iload_n 0, 1) := by decide +kernel
theorem dX11_in_1 : decode cX11_in 1 = .ok (.iload_n 1, 1) := by decide +kernel
theorem dX11_in_2 : decode cX11_in 2 = .ok (.if_icmp .lt 12, 3) := by decide +kernel
theorem dX11_in_5 : decode cX11_in 5 = .ok (.iload_n 0, 1) := by decide +kernel
theorem dX11_in_6 : decode cX11_in 6 = .ok (.iload_n 2, 1) := by decide +kernel
theorem dX11_in_7 : decode cX11_in 7 = .ok (.if_icmp .gt 7, 3) := by decide +kernel
theorem dX11_in_10 : decode cX11_in 10 = .ok (.iconst 1, 1) := by decide +kernel
theorem dX11_in_11 : decode cX11_in 11 = .ok (.goto 4, 3) := by decide +kernel
theorem dX11_in_14 : decode cX11_in 14 = .ok (.iconst 0, 1) := by decide +kernel
theorem dX11_in_15 : decode cX11_in 15 = .ok (.ireturn, 1) := by decide +kernel
theorem dX11_within_0 : decode cX11_within 0 = .ok (.iload_n 0, 1) := by decide +kernel
theorem dX11_within_1 : decode cX11_within 1 = .ok (.iload_n 1, 1) := by decide +kernel
theorem dX11_within_2 : decode cX11_within 2 = .ok (.if_icmp .ge 7, 3) := by decide +kernel
theorem dX11_within_5 : decode cX11_within 5 = .ok (.iload_n 1, 1) := by decide +kernel
theorem dX11_within_6 : decode cX11_within 6 = .ok (.goto 13, 3) := by decide +kernel
theorem dX11_within_9 : decode cX11_within 9 = .ok (.iload_n 0, 1) := by decide +kernel
theorem dX11_within_10 : decode cX11_within 10 = .ok (.iload_n 2, 1) := by decide +kernel
theorem dX11_within_11 : decode cX11_within 11 = .ok (.if_icmp .le 7, 3) := by decide +kernel
theorem dX11_within_14 : decode cX11_within 14 = .ok (.iload_n 2, 1) := by decide +kernel
theorem dX11_within_15 : decode cX11_within 15 = .ok (.goto 4, 3) := by decide +kernel
theorem dX11_within_18 : decode cX11_within 18 = .ok (.iload_n 0, 1) := by decide +kernel
theorem dX11_within_19 : decode cX11_within 19 = .ok (.ireturn, 1) := by decide +kernel
theorem dX11_bits_0 : decode cX11_bits 0 = .ok (.iconst 0, 1) := by decide +kernel
theorem dX11_bits_1 : decode cX11_bits 1 = .ok (.istore_n 1, 1) := by decide +kernel
theorem dX11_bits_2 : decode cX11_bits 2 = .ok (.iconst 0, 1) := by decide +kernel
theorem dX11_bits_3 : decode cX11_bits 3 = .ok (.istore_n 2, 1) := by decide +kernel
theorem dX11_bits_4 : decode cX11_bits 4 = .ok (.iload_n 2, 1) := by decide +kernel
theorem dX11_bits_5 : decode cX11_bits 5 = .ok (.bipush 24, 2) := by decide +kernel
theorem dX11_bits_7 : decode cX11_bits 7 = .ok (.if_icmp .ge 17, 3) := by decide +kernel
theorem dX11_bits_10 : decode cX11_bits 10 = .ok (.iload_n 1, 1) := by decide +kernel
theorem dX11_bits_11 : decode cX11_bits 11 = .ok (.iload_n 0, 1) := by decide +kernel
theorem dX11_bits_12 : decode cX11_bits 12 = .ok (.iload_n 2, 1) := by decide +kernel
theorem dX11_bits_13 : decode cX11_bits 13 = .ok (.ishr, 1) := by decide +kernel
theorem dX11_bits_14 : decode cX11_bits 14 = .ok (.iconst 1, 1) := by decide +kernel
theorem dX11_bits_15 : decode cX11_bits 15 = .ok (.iand, 1) := by decide +kernel
theorem dX11_bits_16 : decode cX11_bits 16 = .ok (.iadd, 1) := by decide +kernel
theorem dX11_bits_17 : decode cX11_bits 17 = .ok (.istore_n 1, 1) := by decide +kernel
theorem dX11_bits_18 : decode cX11_bits 18 = .ok (.iinc 2 1, 3) := by decide +kernel
theorem dX11_bits_21 : decode cX11_bits 21 = .ok (.goto (-17), 3) := by decide +kernel
theorem dX11_bits_24 : decode cX11_bits 24 = .ok (.iload_n 1, 1) := by decide +kernel
theorem dX11_bits_25 : decode cX11_bits 25 = .ok (.ireturn, 1) := by decide +kernel
theorem dX11_isSunday_0 : decode cX11_isSunday 0 = .ok (.iload_n 1, 1) := by decide +kernel
theorem dX11_isSunday_1 : decode cX11_isSunday 1 = .ok (.iconst 0, 1) := by decide +kernel
theorem dX11_isSunday_2 : decode cX11_isSunday 2 = .ok (.aload_n 0, 1) := by decide +kernel
theorem dX11_isSunday_3 : decode cX11_isSunday 3 = .ok (.getfield 46, 3) := by decide +kernel
theorem dX11_isSunday_6 : decode cX11_isSunday 6 = .ok (.aload_n 0, 1) := by decide +kernel
theorem dX11_isSunday_7 : decode cX11_isSunday 7 = .ok (.getfield 236, 3) := by decide +kernel
theorem dX11_isSunday_10 : decode cX11_isSunday 10 = .ok (.iaload, 1) := by decide +kernel
theorem dX11_isSunday_11 : decode cX11_isSunday 11 = .ok (.iconst 1, 1) := by decide +kernel
theorem dX11_isSunday_12 : decode cX11_isSunday 12 = .ok (.isub, 1) := by decide +kernel
theorem dX11_isSunday_13 : decode cX11_isSunday 13 = .ok (.invokestatic 316, 3) := by decide +kernel
theorem dX11_isSunday_16 : decode cX11_isSunday 16 = .ok (.ireturn, 1) := by decide +kernel
theorem dX11_isGuest_0 : decode cX11_isGuest 0 = .ok (.iload_n 1, 1) := by decide +kernel
theorem dX11_isGuest_1 : decode cX11_isGuest 1 = .ok (.iconst 0, 1) := by decide +kernel
theorem dX11_isGuest_2 : decode cX11_isGuest 2 = .ok (.aload_n 0, 1) := by decide +kernel
theorem dX11_isGuest_3 : decode cX11_isGuest 3 = .ok (.getfield 55, 3) := by decide +kernel
theorem dX11_isGuest_6 : decode cX11_isGuest 6 = .ok (.aload_n 0, 1) := by decide +kernel
theorem dX11_isGuest_7 : decode cX11_isGuest 7 = .ok (.getfield 236, 3) := by decide +kernel
theorem dX11_isGuest_10 : decode cX11_isGuest 10 = .ok (.iaload, 1) := by decide +kernel
theorem dX11_isGuest_11 : decode cX11_isGuest 11 = .ok (.iconst 1, 1) := by decide +kernel
theorem dX11_isGuest_12 : decode cX11_isGuest 12 = .ok (.isub, 1) := by decide +kernel
theorem dX11_isGuest_13 : decode cX11_isGuest 13 = .ok (.invokestatic 316, 3) := by decide +kernel
theorem dX11_isGuest_16 : decode cX11_isGuest 16 = .ok (.ireturn, 1) := by decide +kernel
theorem dX11_begins_0 : decode cX11_begins 0 = .ok (.iconst 0, 1) := by decide +kernel
theorem dX11_begins_1 : decode cX11_begins 1 = .ok (.istore_n 1, 1) := by decide +kernel
theorem dX11_begins_2 : decode cX11_begins 2 = .ok (.iload_n 1, 1) := by decide +kernel
theorem dX11_begins_3 : decode cX11_begins 3 = .ok (.bipush 31, 2) := by decide +kernel
theorem dX11_begins_5 : decode cX11_begins 5 = .ok (.if_icmp .ge 16, 3) := by decide +kernel
theorem dX11_begins_8 : decode cX11_begins 8 = .ok (.aload_n 0, 1) := by decide +kernel
theorem dX11_begins_9 : decode cX11_begins 9 = .ok (.getfield 119, 3) := by decide +kernel
theorem dX11_begins_12 : decode cX11_begins 12 = .ok (.iload_n 1, 1) := by decide +kernel
theorem dX11_begins_13 : decode cX11_begins 13 = .ok (.iconst 0, 1) := by decide +kernel
theorem dX11_begins_14 : decode cX11_begins 14 = .ok (.iastore, 1) := by decide +kernel
theorem dX11_begins_15 : decode cX11_begins 15 = .ok (.iinc 1 1, 3) := by decide +kernel
theorem dX11_begins_18 : decode cX11_begins 18 = .ok (.goto (-16), 3) := by decide +kernel
theorem dX11_begins_21 : decode cX11_begins 21 = .ok (.iconst 0, 1) := by decide +kernel
theorem dX11_begins_22 : decode cX11_begins 22 = .ok (.istore_n 1, 1) := by decide +kernel
theorem dX11_begins_23 : decode cX11_begins 23 = .ok (.iload_n 1, 1) := by decide +kernel
theorem dX11_begins_24 : decode cX11_begins 24 = .ok (.bipush 7, 2) := by decide +kernel
theorem dX11_begins_26 : decode cX11_begins 26 = .ok (.if_icmp .ge 17, 3) := by decide +kernel
theorem dX11_begins_29 : decode cX11_begins 29 = .ok (.aload_n 0, 1) := by decide +kernel
theorem dX11_begins_30 : decode cX11_begins 30 = .ok (.getfield 119, 3) := by decide +kernel
theorem dX11_begins_33 : decode cX11_begins 33 = .ok (.iload_n 1, 1) := by decide +kernel
theorem dX11_begins_34 : decode cX11_begins 34 = .ok (.bipush (-2), 2) := by decide +kernel
theorem dX11_begins_36 : decode cX11_begins 36 = .ok (.iastore, 1) := by decide +kernel
theorem dX11_begins_37 : decode cX11_begins 37 = .ok (.iinc 1 1, 3) := by decide +kernel
theorem dX11_begins_40 : decode cX11_begins 40 = .ok (.goto (-17), 3) := by decide +kernel
theorem dX11_begins_43 : decode cX11_begins 43 = .ok (.aload_n 0, 1) := by decide +kernel
theorem dX11_begins_44 : decode cX11_begins 44 = .ok (.aload_n 0, 1) := by decide +kernel
theorem dX11_begins_45 : decode cX11_begins 45 = .ok (.getfield 76, 3) := by decide +kernel
theorem dX11_begins_48 : decode cX11_begins 48 = .ok (.aload_n 0, 1) := by decide +kernel
theorem dX11_begins_49 : decode cX11_begins 49 = .ok (.getfield 236, 3) := by decide +kernel
theorem dX11_begins_52 : decode cX11_begins 52 = .ok (.iaload, 1) := by decide +kernel
theorem dX11_begins_53 : decode cX11_begins 53 = .ok (.putfield 320, 3) := by decide +kernel
theorem dX11_begins_56 : decode cX11_begins 56 = .ok (.aload_n 0, 1) := by decide +kernel
theorem dX11_begins_57 : decode cX11_begins 57 = .ok (.iconst 0, 1) := by decide +kernel
theorem dX11_begins_58 : decode cX11_begins 58 = .ok (.putfield 323, 3) := by decide +kernel
theorem dX11_begins_61 : decode cX11_begins 61 = .ok (.return_, 1) := by decide +kernel
theorem dX11_keepsRow_0 : decode cX11_keepsRow 0 = .ok (.iconst 0, 1) := by decide +kernel
theorem dX11_keepsRow_1 : decode cX11_keepsRow 1 = .ok (.istore_n 1, 1) := by decide +kernel
theorem dX11_keepsRow_2 : decode cX11_keepsRow 2 = .ok (.iload_n 1, 1) := by decide +kernel
theorem dX11_keepsRow_3 : decode cX11_keepsRow 3 = .ok (.bipush 31, 2) := by decide +kernel
theorem dX11_keepsRow_5 : decode cX11_keepsRow 5 = .ok (.if_icmp .ge 21, 3) := by decide +kernel
theorem dX11_keepsRow_8 : decode cX11_keepsRow 8 = .ok (.aload_n 0, 1) := by decide +kernel
theorem dX11_keepsRow_9 : decode cX11_keepsRow 9 = .ok (.getfield 116, 3) := by decide +kernel
theorem dX11_keepsRow_12 : decode cX11_keepsRow 12 = .ok (.iload_n 1, 1) := by decide +kernel
theorem dX11_keepsRow_13 : decode cX11_keepsRow 13 = .ok (.aload_n 0, 1) := by decide +kernel
theorem dX11_keepsRow_14 : decode cX11_keepsRow 14 = .ok (.getfield 119, 3) := by decide +kernel
theorem dX11_keepsRow_17 : decode cX11_keepsRow 17 = .ok (.iload_n 1, 1) := by decide +kernel
theorem dX11_keepsRow_18 : decode cX11_keepsRow 18 = .ok (.iaload, 1) := by decide +kernel
theorem dX11_keepsRow_19 : decode cX11_keepsRow 19 = .ok (.iastore, 1) := by decide +kernel
theorem dX11_keepsRow_20 : decode cX11_keepsRow 20 = .ok (.iinc 1 1, 3) := by decide +kernel
theorem dX11_keepsRow_23 : decode cX11_keepsRow 23 = .ok (.goto (-21), 3) := by decide +kernel
theorem dX11_keepsRow_26 : decode cX11_keepsRow 26 = .ok (.return_, 1) := by decide +kernel
theorem dX11_copies_0 : decode cX11_copies 0 = .ok (.iconst 0, 1) := by decide +kernel
theorem dX11_copies_1 : decode cX11_copies 1 = .ok (.istore_n 1, 1) := by decide +kernel
theorem dX11_copies_2 : decode cX11_copies 2 = .ok (.iload_n 1, 1) := by decide +kernel
theorem dX11_copies_3 : decode cX11_copies 3 = .ok (.bipush 31, 2) := by decide +kernel
theorem dX11_copies_5 : decode cX11_copies 5 = .ok (.if_icmp .ge 21, 3) := by decide +kernel
theorem dX11_copies_8 : decode cX11_copies 8 = .ok (.aload_n 0, 1) := by decide +kernel
theorem dX11_copies_9 : decode cX11_copies 9 = .ok (.getfield 119, 3) := by decide +kernel
theorem dX11_copies_12 : decode cX11_copies 12 = .ok (.iload_n 1, 1) := by decide +kernel
theorem dX11_copies_13 : decode cX11_copies 13 = .ok (.aload_n 0, 1) := by decide +kernel
theorem dX11_copies_14 : decode cX11_copies 14 = .ok (.getfield 116, 3) := by decide +kernel
theorem dX11_copies_17 : decode cX11_copies 17 = .ok (.iload_n 1, 1) := by decide +kernel
theorem dX11_copies_18 : decode cX11_copies 18 = .ok (.iaload, 1) := by decide +kernel
theorem dX11_copies_19 : decode cX11_copies 19 = .ok (.iastore, 1) := by decide +kernel
theorem dX11_copies_20 : decode cX11_copies 20 = .ok (.iinc 1 1, 3) := by decide +kernel
theorem dX11_copies_23 : decode cX11_copies 23 = .ok (.goto (-21), 3) := by decide +kernel
theorem dX11_copies_26 : decode cX11_copies 26 = .ok (.aload_n 0, 1) := by decide +kernel
theorem dX11_copies_27 : decode cX11_copies 27 = .ok (.aload_n 0, 1) := by decide +kernel
theorem dX11_copies_28 : decode cX11_copies 28 = .ok (.getfield 76, 3) := by decide +kernel
theorem dX11_copies_31 : decode cX11_copies 31 = .ok (.aload_n 0, 1) := by decide +kernel
theorem dX11_copies_32 : decode cX11_copies 32 = .ok (.getfield 236, 3) := by decide +kernel
theorem dX11_copies_35 : decode cX11_copies 35 = .ok (.iaload, 1) := by decide +kernel
theorem dX11_copies_36 : decode cX11_copies 36 = .ok (.putfield 320, 3) := by decide +kernel
theorem dX11_copies_39 : decode cX11_copies 39 = .ok (.aload_n 0, 1) := by decide +kernel
theorem dX11_copies_40 : decode cX11_copies 40 = .ok (.iconst 0, 1) := by decide +kernel
theorem dX11_copies_41 : decode cX11_copies 41 = .ok (.putfield 323, 3) := by decide +kernel
theorem dX11_copies_44 : decode cX11_copies 44 = .ok (.return_, 1) := by decide +kernel
theorem dX11_copiesStill_0 : decode cX11_copiesStill 0 = .ok (.aload_n 0, 1) := by decide +kernel
theorem dX11_copiesStill_1 : decode cX11_copiesStill 1 = .ok (.invokevirtual 326, 3) := by decide +kernel
theorem dX11_copiesStill_4 : decode cX11_copiesStill 4 = .ok (.aload_n 0, 1) := by decide +kernel
theorem dX11_copiesStill_5 : decode cX11_copiesStill 5 = .ok (.iconst 1, 1) := by decide +kernel
theorem dX11_copiesStill_6 : decode cX11_copiesStill 6 = .ok (.putfield 323, 3) := by decide +kernel
theorem dX11_copiesStill_9 : decode cX11_copiesStill 9 = .ok (.return_, 1) := by decide +kernel
theorem dX11_mixed_0 : decode cX11_mixed 0 = .ok (.iload_n 0, 1) := by decide +kernel
theorem dX11_mixed_1 : decode cX11_mixed 1 = .ok (.iload_n 1, 1) := by decide +kernel
theorem dX11_mixed_2 : decode cX11_mixed 2 = .ok (.ixor, 1) := by decide +kernel
theorem dX11_mixed_3 : decode cX11_mixed 3 = .ok (.ldc_w 329, 3) := by decide +kernel
theorem dX11_mixed_6 : decode cX11_mixed 6 = .ok (.imul, 1) := by decide +kernel
theorem dX11_mixed_7 : decode cX11_mixed 7 = .ok (.sipush 12345, 3) := by decide +kernel
theorem dX11_mixed_10 : decode cX11_mixed 10 = .ok (.iadd, 1) := by decide +kernel
theorem dX11_mixed_11 : decode cX11_mixed 11 = .ok (.istore_n 2, 1) := by decide +kernel
theorem dX11_mixed_12 : decode cX11_mixed 12 = .ok (.iload_n 2, 1) := by decide +kernel
theorem dX11_mixed_13 : decode cX11_mixed 13 = .ok (.iload_n 2, 1) := by decide +kernel
theorem dX11_mixed_14 : decode cX11_mixed 14 = .ok (.bipush 15, 2) := by decide +kernel
theorem dX11_mixed_16 : decode cX11_mixed 16 = .ok (.iushr, 1) := by decide +kernel
theorem dX11_mixed_17 : decode cX11_mixed 17 = .ok (.ixor, 1) := by decide +kernel
theorem dX11_mixed_18 : decode cX11_mixed 18 = .ok (.ireturn, 1) := by decide +kernel
theorem dX11_lotOf_0 : decode cX11_lotOf 0 = .ok (.aload_n 0, 1) := by decide +kernel
theorem dX11_lotOf_1 : decode cX11_lotOf 1 = .ok (.getfield 320, 3) := by decide +kernel
theorem dX11_lotOf_4 : decode cX11_lotOf 4 = .ok (.sipush 165, 3) := by decide +kernel
theorem dX11_lotOf_7 : decode cX11_lotOf 7 = .ok (.invokestatic 330, 3) := by decide +kernel
theorem dX11_lotOf_10 : decode cX11_lotOf 10 = .ok (.iload_n 1, 1) := by decide +kernel
theorem dX11_lotOf_11 : decode cX11_lotOf 11 = .ok (.invokestatic 330, 3) := by decide +kernel
theorem dX11_lotOf_14 : decode cX11_lotOf 14 = .ok (.iconst 1, 1) := by decide +kernel
theorem dX11_lotOf_15 : decode cX11_lotOf 15 = .ok (.iushr, 1) := by decide +kernel
theorem dX11_lotOf_16 : decode cX11_lotOf 16 = .ok (.bipush 100, 2) := by decide +kernel
theorem dX11_lotOf_18 : decode cX11_lotOf 18 = .ok (.irem, 1) := by decide +kernel
theorem dX11_lotOf_19 : decode cX11_lotOf 19 = .ok (.ireturn, 1) := by decide +kernel
theorem dX11_fromAt_0 : decode cX11_fromAt 0 = .ok (.aload_n 0, 1) := by decide +kernel
theorem dX11_fromAt_1 : decode cX11_fromAt 1 = .ok (.getfield 58, 3) := by decide +kernel
theorem dX11_fromAt_4 : decode cX11_fromAt 4 = .ok (.bipush 7, 2) := by decide +kernel
theorem dX11_fromAt_6 : decode cX11_fromAt 6 = .ok (.aload_n 0, 1) := by decide +kernel
theorem dX11_fromAt_7 : decode cX11_fromAt 7 = .ok (.getfield 236, 3) := by decide +kernel
theorem dX11_fromAt_10 : decode cX11_fromAt 10 = .ok (.imul, 1) := by decide +kernel
theorem dX11_fromAt_11 : decode cX11_fromAt 11 = .ok (.iload_n 1, 1) := by decide +kernel
theorem dX11_fromAt_12 : decode cX11_fromAt 12 = .ok (.iadd, 1) := by decide +kernel
theorem dX11_fromAt_13 : decode cX11_fromAt 13 = .ok (.iaload, 1) := by decide +kernel
theorem dX11_fromAt_14 : decode cX11_fromAt 14 = .ok (.ireturn, 1) := by decide +kernel
theorem dX11_tillAt_0 : decode cX11_tillAt 0 = .ok (.aload_n 0, 1) := by decide +kernel
theorem dX11_tillAt_1 : decode cX11_tillAt 1 = .ok (.getfield 58, 3) := by decide +kernel
theorem dX11_tillAt_4 : decode cX11_tillAt 4 = .ok (.bipush 7, 2) := by decide +kernel
theorem dX11_tillAt_6 : decode cX11_tillAt 6 = .ok (.aload_n 0, 1) := by decide +kernel
theorem dX11_tillAt_7 : decode cX11_tillAt 7 = .ok (.getfield 236, 3) := by decide +kernel
theorem dX11_tillAt_10 : decode cX11_tillAt 10 = .ok (.imul, 1) := by decide +kernel
theorem dX11_tillAt_11 : decode cX11_tillAt 11 = .ok (.iload_n 1, 1) := by decide +kernel
theorem dX11_tillAt_12 : decode cX11_tillAt 12 = .ok (.iadd, 1) := by decide +kernel
theorem dX11_tillAt_13 : decode cX11_tillAt 13 = .ok (.iaload, 1) := by decide +kernel
theorem dX11_tillAt_14 : decode cX11_tillAt 14 = .ok (.aload_n 0, 1) := by decide +kernel
theorem dX11_tillAt_15 : decode cX11_tillAt 15 = .ok (.getfield 61, 3) := by decide +kernel
theorem dX11_tillAt_18 : decode cX11_tillAt 18 = .ok (.bipush 7, 2) := by decide +kernel
theorem dX11_tillAt_20 : decode cX11_tillAt 20 = .ok (.aload_n 0, 1) := by decide +kernel
theorem dX11_tillAt_21 : decode cX11_tillAt 21 = .ok (.getfield 236, 3) := by decide +kernel
theorem dX11_tillAt_24 : decode cX11_tillAt 24 = .ok (.imul, 1) := by decide +kernel
theorem dX11_tillAt_25 : decode cX11_tillAt 25 = .ok (.iload_n 1, 1) := by decide +kernel
theorem dX11_tillAt_26 : decode cX11_tillAt 26 = .ok (.iadd, 1) := by decide +kernel
theorem dX11_tillAt_27 : decode cX11_tillAt 27 = .ok (.iaload, 1) := by decide +kernel
theorem dX11_tillAt_28 : decode cX11_tillAt 28 = .ok (.iadd, 1) := by decide +kernel
theorem dX11_tillAt_29 : decode cX11_tillAt 29 = .ok (.ireturn, 1) := by decide +kernel
theorem dX11_doClash_0 : decode cX11_doClash 0 = .ok (.iload_n 1, 1) := by decide +kernel
theorem dX11_doClash_1 : decode cX11_doClash 1 = .ok (.iload_n 2, 1) := by decide +kernel
theorem dX11_doClash_2 : decode cX11_doClash 2 = .ok (.if_icmp .ne 5, 3) := by decide +kernel
theorem dX11_doClash_5 : decode cX11_doClash 5 = .ok (.iconst 0, 1) := by decide +kernel
theorem dX11_doClash_6 : decode cX11_doClash 6 = .ok (.ireturn, 1) := by decide +kernel
theorem dX11_doClash_7 : decode cX11_doClash 7 = .ok (.aload_n 0, 1) := by decide +kernel
theorem dX11_doClash_8 : decode cX11_doClash 8 = .ok (.getfield 67, 3) := by decide +kernel
theorem dX11_doClash_11 : decode cX11_doClash 11 = .ok (.bipush 7, 2) := by decide +kernel
theorem dX11_doClash_13 : decode cX11_doClash 13 = .ok (.aload_n 0, 1) := by decide +kernel
theorem dX11_doClash_14 : decode cX11_doClash 14 = .ok (.getfield 236, 3) := by decide +kernel
theorem dX11_doClash_17 : decode cX11_doClash 17 = .ok (.imul, 1) := by decide +kernel
theorem dX11_doClash_18 : decode cX11_doClash 18 = .ok (.iload_n 1, 1) := by decide +kernel
theorem dX11_doClash_19 : decode cX11_doClash 19 = .ok (.iadd, 1) := by decide +kernel
theorem dX11_doClash_20 : decode cX11_doClash 20 = .ok (.iaload, 1) := by decide +kernel
theorem dX11_doClash_21 : decode cX11_doClash 21 = .ok (.iload_n 2, 1) := by decide +kernel
theorem dX11_doClash_22 : decode cX11_doClash 22 = .ok (.ishr, 1) := by decide +kernel
theorem dX11_doClash_23 : decode cX11_doClash 23 = .ok (.iconst 1, 1) := by decide +kernel
theorem dX11_doClash_24 : decode cX11_doClash 24 = .ok (.iand, 1) := by decide +kernel
theorem dX11_doClash_25 : decode cX11_doClash 25 = .ok (.iconst 1, 1) := by decide +kernel
theorem dX11_doClash_26 : decode cX11_doClash 26 = .ok (.if_icmp .eq 29, 3) := by decide +kernel
theorem dX11_doClash_29 : decode cX11_doClash 29 = .ok (.aload_n 0, 1) := by decide +kernel
theorem dX11_doClash_30 : decode cX11_doClash 30 = .ok (.iload_n 1, 1) := by decide +kernel
theorem dX11_doClash_31 : decode cX11_doClash 31 = .ok (.invokevirtual 333, 3) := by decide +kernel
theorem dX11_doClash_34 : decode cX11_doClash 34 = .ok (.aload_n 0, 1) := by decide +kernel
theorem dX11_doClash_35 : decode cX11_doClash 35 = .ok (.iload_n 2, 1) := by decide +kernel
theorem dX11_doClash_36 : decode cX11_doClash 36 = .ok (.invokevirtual 336, 3) := by decide +kernel
theorem dX11_doClash_39 : decode cX11_doClash 39 = .ok (.if_icmp .ge 20, 3) := by decide +kernel
theorem dX11_doClash_42 : decode cX11_doClash 42 = .ok (.aload_n 0, 1) := by decide +kernel
theorem dX11_doClash_43 : decode cX11_doClash 43 = .ok (.iload_n 2, 1) := by decide +kernel
theorem dX11_doClash_44 : decode cX11_doClash 44 = .ok (.invokevirtual 333, 3) := by decide +kernel
theorem dX11_doClash_47 : decode cX11_doClash 47 = .ok (.aload_n 0, 1) := by decide +kernel
theorem dX11_doClash_48 : decode cX11_doClash 48 = .ok (.iload_n 1, 1) := by decide +kernel
theorem dX11_doClash_49 : decode cX11_doClash 49 = .ok (.invokevirtual 336, 3) := by decide +kernel
theorem dX11_doClash_52 : decode cX11_doClash 52 = .ok (.if_icmp .ge 7, 3) := by decide +kernel
theorem dX11_doClash_55 : decode cX11_doClash 55 = .ok (.iconst 1, 1) := by decide +kernel
theorem dX11_doClash_56 : decode cX11_doClash 56 = .ok (.goto 4, 3) := by decide +kernel
theorem dX11_doClash_59 : decode cX11_doClash 59 = .ok (.iconst 0, 1) := by decide +kernel
theorem dX11_doClash_60 : decode cX11_doClash 60 = .ok (.ireturn, 1) := by decide +kernel
theorem dX11_clashBits_0 : decode cX11_clashBits 0 = .ok (.iconst 0, 1) := by decide +kernel
theorem dX11_clashBits_1 : decode cX11_clashBits 1 = .ok (.istore_n 2, 1) := by decide +kernel
theorem dX11_clashBits_2 : decode cX11_clashBits 2 = .ok (.iconst 0, 1) := by decide +kernel
theorem dX11_clashBits_3 : decode cX11_clashBits 3 = .ok (.istore_n 3, 1) := by decide +kernel
theorem dX11_clashBits_4 : decode cX11_clashBits 4 = .ok (.iload_n 3, 1) := by decide +kernel
theorem dX11_clashBits_5 : decode cX11_clashBits 5 = .ok (.aload_n 0, 1) := by decide +kernel
theorem dX11_clashBits_6 : decode cX11_clashBits 6 = .ok (.getfield 55, 3) := by decide +kernel
theorem dX11_clashBits_9 : decode cX11_clashBits 9 = .ok (.aload_n 0, 1) := by decide +kernel
theorem dX11_clashBits_10 : decode cX11_clashBits 10 = .ok (.getfield 236, 3) := by decide +kernel
theorem dX11_clashBits_13 : decode cX11_clashBits 13 = .ok (.iaload, 1) := by decide +kernel
theorem dX11_clashBits_14 : decode cX11_clashBits 14 = .ok (.if_icmp .ge 24, 3) := by decide +kernel
theorem dX11_clashBits_17 : decode cX11_clashBits 17 = .ok (.aload_n 0, 1) := by decide +kernel
theorem dX11_clashBits_18 : decode cX11_clashBits 18 = .ok (.iload_n 1, 1) := by decide +kernel
theorem dX11_clashBits_19 : decode cX11_clashBits 19 = .ok (.iload_n 3, 1) := by decide +kernel
theorem dX11_clashBits_20 : decode cX11_clashBits 20 = .ok (.invokevirtual 339, 3) := by decide +kernel
theorem dX11_clashBits_23 : decode cX11_clashBits 23 = .ok (.ifCond .eq 9, 3) := by decide +kernel
theorem dX11_clashBits_26 : decode cX11_clashBits 26 = .ok (.iload_n 2, 1) := by decide +kernel
theorem dX11_clashBits_27 : decode cX11_clashBits 27 = .ok (.iconst 1, 1) := by decide +kernel
theorem dX11_clashBits_28 : decode cX11_clashBits 28 = .ok (.iload_n 3, 1) := by decide +kernel
theorem dX11_clashBits_29 : decode cX11_clashBits 29 = .ok (.ishl, 1) := by decide +kernel
theorem dX11_clashBits_30 : decode cX11_clashBits 30 = .ok (.ior, 1) := by decide +kernel
theorem dX11_clashBits_31 : decode cX11_clashBits 31 = .ok (.istore_n 2, 1) := by decide +kernel
theorem dX11_clashBits_32 : decode cX11_clashBits 32 = .ok (.iinc 3 1, 3) := by decide +kernel
theorem dX11_clashBits_35 : decode cX11_clashBits 35 = .ok (.goto (-31), 3) := by decide +kernel
theorem dX11_clashBits_38 : decode cX11_clashBits 38 = .ok (.iload_n 2, 1) := by decide +kernel
theorem dX11_clashBits_39 : decode cX11_clashBits 39 = .ok (.ireturn, 1) := by decide +kernel
theorem dX11_doesFit_0 : decode cX11_doesFit 0 = .ok (.aload_n 0, 1) := by decide +kernel
