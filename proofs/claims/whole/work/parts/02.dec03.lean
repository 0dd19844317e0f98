theorem dX8_cutLetters_52 : decode cX8_cutLetters 52 = .ok (.iload_n 2, 1) := by decide +kernel
theorem dX8_cutLetters_53 : decode cX8_cutLetters 53 = .ok (.isub, 1) := by decide +kernel
theorem dX8_cutLetters_54 : decode cX8_cutLetters 54 = .ok (.bipush 8, 2) := by decide +kernel
theorem dX8_cutLetters_56 : decode cX8_cutLetters 56 = .ok (.if_icmp .le 7, 3) := by decide +kernel
theorem dX8_cutLetters_59 : decode cX8_cutLetters 59 = .ok (.iconst 1, 1) := by decide +kernel
theorem dX8_cutLetters_60 : decode cX8_cutLetters 60 = .ok (.goto 9, 3) := by decide +kernel
theorem dX8_cutLetters_63 : decode cX8_cutLetters 63 = .ok (.aload_n 0, 1) := by decide +kernel
theorem dX8_cutLetters_64 : decode cX8_cutLetters 64 = .ok (.lload 4, 2) := by decide +kernel
theorem dX8_cutLetters_66 : decode cX8_cutLetters 66 = .ok (.invokevirtual 82, 3) := by decide +kernel
theorem dX8_cutLetters_69 : decode cX8_cutLetters 69 = .ok (.iload_n 2, 1) := by decide +kernel
theorem dX8_cutLetters_70 : decode cX8_cutLetters 70 = .ok (.lload 4, 2) := by decide +kernel
theorem dX8_cutLetters_72 : decode cX8_cutLetters 72 = .ok (.invokevirtual 52, 3) := by decide +kernel
theorem dX8_cutLetters_75 : decode cX8_cutLetters 75 = .ok (.iload_n 3, 1) := by decide +kernel
theorem dX8_cutLetters_76 : decode cX8_cutLetters 76 = .ok (.ireturn, 1) := by decide +kernel
theorem dX8_cutDigits_0 : decode cX8_cutDigits 0 = .ok (.iload_n 2, 1) := by decide +kernel
theorem dX8_cutDigits_1 : decode cX8_cutDigits 1 = .ok (.istore_n 3, 1) := by decide +kernel
theorem dX8_cutDigits_2 : decode cX8_cutDigits 2 = .ok (.iconst 0, 1) := by decide +kernel
theorem dX8_cutDigits_3 : decode cX8_cutDigits 3 = .ok (.istore 4, 2) := by decide +kernel
theorem dX8_cutDigits_5 : decode cX8_cutDigits 5 = .ok (.iload_n 3, 1) := by decide +kernel
theorem dX8_cutDigits_6 : decode cX8_cutDigits 6 = .ok (.aload_n 1, 1) := by decide +kernel
theorem dX8_cutDigits_7 : decode cX8_cutDigits 7 = .ok (.getfield 45, 3) := by decide +kernel
theorem dX8_cutDigits_10 : decode cX8_cutDigits 10 = .ok (.if_icmp .ge 38, 3) := by decide +kernel
theorem dX8_cutDigits_13 : decode cX8_cutDigits 13 = .ok (.aload_n 1, 1) := by decide +kernel
theorem dX8_cutDigits_14 : decode cX8_cutDigits 14 = .ok (.getfield 56, 3) := by decide +kernel
theorem dX8_cutDigits_17 : decode cX8_cutDigits 17 = .ok (.iload_n 3, 1) := by decide +kernel
theorem dX8_cutDigits_18 : decode cX8_cutDigits 18 = .ok (.baload, 1) := by decide +kernel
theorem dX8_cutDigits_19 : decode cX8_cutDigits 19 = .ok (.invokestatic 70, 3) := by decide +kernel
theorem dX8_cutDigits_22 : decode cX8_cutDigits 22 = .ok (.ifCond .eq 26, 3) := by decide +kernel
theorem dX8_cutDigits_25 : decode cX8_cutDigits 25 = .ok (.iload 4, 2) := by decide +kernel
theorem dX8_cutDigits_27 : decode cX8_cutDigits 27 = .ok (.bipush 10, 2) := by decide +kernel
theorem dX8_cutDigits_29 : decode cX8_cutDigits 29 = .ok (.imul, 1) := by decide +kernel
theorem dX8_cutDigits_30 : decode cX8_cutDigits 30 = .ok (.aload_n 1, 1) := by decide +kernel
theorem dX8_cutDigits_31 : decode cX8_cutDigits 31 = .ok (.getfield 56, 3) := by decide +kernel
theorem dX8_cutDigits_34 : decode cX8_cutDigits 34 = .ok (.iload_n 3, 1) := by decide +kernel
theorem dX8_cutDigits_35 : decode cX8_cutDigits 35 = .ok (.baload, 1) := by decide +kernel
theorem dX8_cutDigits_36 : decode cX8_cutDigits 36 = .ok (.bipush 48, 2) := by decide +kernel
theorem dX8_cutDigits_38 : decode cX8_cutDigits 38 = .ok (.isub, 1) := by decide +kernel
theorem dX8_cutDigits_39 : decode cX8_cutDigits 39 = .ok (.iadd, 1) := by decide +kernel
theorem dX8_cutDigits_40 : decode cX8_cutDigits 40 = .ok (.istore 4, 2) := by decide +kernel
theorem dX8_cutDigits_42 : decode cX8_cutDigits 42 = .ok (.iinc 3 1, 3) := by decide +kernel
theorem dX8_cutDigits_45 : decode cX8_cutDigits 45 = .ok (.goto (-40), 3) := by decide +kernel
theorem dX8_cutDigits_48 : decode cX8_cutDigits 48 = .ok (.aload_n 0, 1) := by decide +kernel
theorem dX8_cutDigits_49 : decode cX8_cutDigits 49 = .ok (.iload_n 3, 1) := by decide +kernel
theorem dX8_cutDigits_50 : decode cX8_cutDigits 50 = .ok (.iload_n 2, 1) := by decide +kernel
theorem dX8_cutDigits_51 : decode cX8_cutDigits 51 = .ok (.isub, 1) := by decide +kernel
theorem dX8_cutDigits_52 : decode cX8_cutDigits 52 = .ok (.iconst 4, 1) := by decide +kernel
theorem dX8_cutDigits_53 : decode cX8_cutDigits 53 = .ok (.if_icmp .le 7, 3) := by decide +kernel
theorem dX8_cutDigits_56 : decode cX8_cutDigits 56 = .ok (.iconst 1, 1) := by decide +kernel
theorem dX8_cutDigits_57 : decode cX8_cutDigits 57 = .ok (.goto 4, 3) := by decide +kernel
theorem dX8_cutDigits_60 : decode cX8_cutDigits 60 = .ok (.iconst 3, 1) := by decide +kernel
theorem dX8_cutDigits_61 : decode cX8_cutDigits 61 = .ok (.iload_n 2, 1) := by decide +kernel
theorem dX8_cutDigits_62 : decode cX8_cutDigits 62 = .ok (.iload 4, 2) := by decide +kernel
theorem dX8_cutDigits_64 : decode cX8_cutDigits 64 = .ok (.i2l, 1) := by decide +kernel
theorem dX8_cutDigits_65 : decode cX8_cutDigits 65 = .ok (.invokevirtual 52, 3) := by decide +kernel
theorem dX8_cutDigits_68 : decode cX8_cutDigits 68 = .ok (.iload_n 3, 1) := by decide +kernel
theorem dX8_cutDigits_69 : decode cX8_cutDigits 69 = .ok (.ireturn, 1) := by decide +kernel
theorem dX8_kindOf_0 : decode cX8_kindOf 0 = .ok (.iconst 0, 1) := by decide +kernel
theorem dX8_kindOf_1 : decode cX8_kindOf 1 = .ok (.istore_n 3, 1) := by decide +kernel
theorem dX8_kindOf_2 : decode cX8_kindOf 2 = .ok (.iload_n 3, 1) := by decide +kernel
theorem dX8_kindOf_3 : decode cX8_kindOf 3 = .ok (.bipush 21, 2) := by decide +kernel
theorem dX8_kindOf_5 : decode cX8_kindOf 5 = .ok (.if_icmp .ge 25, 3) := by decide +kernel
theorem dX8_kindOf_8 : decode cX8_kindOf 8 = .ok (.aload_n 0, 1) := by decide +kernel
theorem dX8_kindOf_9 : decode cX8_kindOf 9 = .ok (.getfield 22, 3) := by decide +kernel
theorem dX8_kindOf_12 : decode cX8_kindOf 12 = .ok (.iload_n 3, 1) := by decide +kernel
theorem dX8_kindOf_13 : decode cX8_kindOf 13 = .ok (.laload, 1) := by decide +kernel
theorem dX8_kindOf_14 : decode cX8_kindOf 14 = .ok (.lload_n 1, 1) := by decide +kernel
theorem dX8_kindOf_15 : decode cX8_kindOf 15 = .ok (.lcmp, 1) := by decide +kernel
theorem dX8_kindOf_16 : decode cX8_kindOf 16 = .ok (.ifCond .ne 8, 3) := by decide +kernel
theorem dX8_kindOf_19 : decode cX8_kindOf 19 = .ok (.bipush 13, 2) := by decide +kernel
theorem dX8_kindOf_21 : decode cX8_kindOf 21 = .ok (.iload_n 3, 1) := by decide +kernel
theorem dX8_kindOf_22 : decode cX8_kindOf 22 = .ok (.iadd, 1) := by decide +kernel
theorem dX8_kindOf_23 : decode cX8_kindOf 23 = .ok (.ireturn, 1) := by decide +kernel
theorem dX8_kindOf_24 : decode cX8_kindOf 24 = .ok (.iinc 3 1, 3) := by decide +kernel
theorem dX8_kindOf_27 : decode cX8_kindOf 27 = .ok (.goto (-25), 3) := by decide +kernel
theorem dX8_kindOf_30 : decode cX8_kindOf 30 = .ok (.iconst 2, 1) := by decide +kernel
theorem dX8_kindOf_31 : decode cX8_kindOf 31 = .ok (.ireturn, 1) := by decide +kernel
theorem dX8_add_0 : decode cX8_add 0 = .ok (.aload_n 0, 1) := by decide +kernel
theorem dX8_add_1 : decode cX8_add 1 = .ok (.getfield 25, 3) := by decide +kernel
theorem dX8_add_4 : decode cX8_add 4 = .ok (.aload_n 0, 1) := by decide +kernel
theorem dX8_add_5 : decode cX8_add 5 = .ok (.getfield 9, 3) := by decide +kernel
theorem dX8_add_8 : decode cX8_add 8 = .ok (.arraylength, 1) := by decide +kernel
theorem dX8_add_9 : decode cX8_add 9 = .ok (.if_icmp .ge 43, 3) := by decide +kernel
theorem dX8_add_12 : decode cX8_add 12 = .ok (.aload_n 0, 1) := by decide +kernel
theorem dX8_add_13 : decode cX8_add 13 = .ok (.getfield 9, 3) := by decide +kernel
theorem dX8_add_16 : decode cX8_add 16 = .ok (.aload_n 0, 1) := by decide +kernel
theorem dX8_add_17 : decode cX8_add 17 = .ok (.getfield 25, 3) := by decide +kernel
theorem dX8_add_20 : decode cX8_add 20 = .ok (.iload_n 1, 1) := by decide +kernel
theorem dX8_add_21 : decode cX8_add 21 = .ok (.iastore, 1) := by decide +kernel
theorem dX8_add_22 : decode cX8_add 22 = .ok (.aload_n 0, 1) := by decide +kernel
theorem dX8_add_23 : decode cX8_add 23 = .ok (.getfield 15, 3) := by decide +kernel
theorem dX8_add_26 : decode cX8_add 26 = .ok (.aload_n 0, 1) := by decide +kernel
theorem dX8_add_27 : decode cX8_add 27 = .ok (.getfield 25, 3) := by decide +kernel
theorem dX8_add_30 : decode cX8_add 30 = .ok (.iload_n 2, 1) := by decide +kernel
theorem dX8_add_31 : decode cX8_add 31 = .ok (.iastore, 1) := by decide +kernel
theorem dX8_add_32 : decode cX8_add 32 = .ok (.aload_n 0, 1) := by decide +kernel
theorem dX8_add_33 : decode cX8_add 33 = .ok (.getfield 18, 3) := by decide +kernel
theorem dX8_add_36 : decode cX8_add 36 = .ok (.aload_n 0, 1) := by decide +kernel
theorem dX8_add_37 : decode cX8_add 37 = .ok (.getfield 25, 3) := by decide +kernel
theorem dX8_add_40 : decode cX8_add 40 = .ok (.lload_n 3, 1) := by decide +kernel
theorem dX8_add_41 : decode cX8_add 41 = .ok (.lastore, 1) := by decide +kernel
theorem dX8_add_42 : decode cX8_add 42 = .ok (.aload_n 0, 1) := by decide +kernel
theorem dX8_add_43 : decode cX8_add 43 = .ok (.dup, 1) := by decide +kernel
theorem dX8_add_44 : decode cX8_add 44 = .ok (.getfield 25, 3) := by decide +kernel
theorem dX8_add_47 : decode cX8_add 47 = .ok (.iconst 1, 1) := by decide +kernel
theorem dX8_add_48 : decode cX8_add 48 = .ok (.iadd, 1) := by decide +kernel
theorem dX8_add_49 : decode cX8_add 49 = .ok (.putfield 25, 3) := by decide +kernel
theorem dX8_add_52 : decode cX8_add 52 = .ok (.return_, 1) := by decide +kernel
theorem dX8_isBlank_0 : decode cX8_isBlank 0 = .ok (.iload_n 0, 1) := by decide +kernel
theorem dX8_isBlank_1 : decode cX8_isBlank 1 = .ok (.bipush 9, 2) := by decide +kernel
theorem dX8_isBlank_3 : decode cX8_isBlank 3 = .ok (.if_icmp .eq 21, 3) := by decide +kernel
theorem dX8_isBlank_6 : decode cX8_isBlank 6 = .ok (.iload_n 0, 1) := by decide +kernel
theorem dX8_isBlank_7 : decode cX8_isBlank 7 = .ok (.bipush 10, 2) := by decide +kernel
theorem dX8_isBlank_9 : decode cX8_isBlank 9 = .ok (.if_icmp .eq 15, 3) := by decide +kernel
theorem dX8_isBlank_12 : decode cX8_isBlank 12 = .ok (.iload_n 0, 1) := by decide +kernel
theorem dX8_isBlank_13 : decode cX8_isBlank 13 = .ok (.bipush 13, 2) := by decide +kernel
theorem dX8_isBlank_15 : decode cX8_isBlank 15 = .ok (.if_icmp .eq 9, 3) := by decide +kernel
theorem dX8_isBlank_18 : decode cX8_isBlank 18 = .ok (.iload_n 0, 1) := by decide +kernel
theorem dX8_isBlank_19 : decode cX8_isBlank 19 = .ok (.bipush 32, 2) := by decide +kernel
theorem dX8_isBlank_21 : decode cX8_isBlank 21 = .ok (.if_icmp .ne 7, 3) := by decide +kernel
theorem dX8_isBlank_24 : decode cX8_isBlank 24 = .ok (.iconst 1, 1) := by decide +kernel
theorem dX8_isBlank_25 : decode cX8_isBlank 25 = .ok (.goto 4, 3) := by decide +kernel
theorem dX8_isBlank_28 : decode cX8_isBlank 28 = .ok (.iconst 0, 1) := by decide +kernel
theorem dX8_isBlank_29 : decode cX8_isBlank 29 = .ok (.ireturn, 1) := by decide +kernel
theorem dX8_isLetter_0 : decode cX8_isLetter 0 = .ok (.iload_n 0, 1) := by decide +kernel
theorem dX8_isLetter_1 : decode cX8_isLetter 1 = .ok (.bipush 97, 2) := by decide +kernel
theorem dX8_isLetter_3 : decode cX8_isLetter 3 = .ok (.if_icmp .lt 13, 3) := by decide +kernel
theorem dX8_isLetter_6 : decode cX8_isLetter 6 = .ok (.iload_n 0, 1) := by decide +kernel
theorem dX8_isLetter_7 : decode cX8_isLetter 7 = .ok (.bipush 122, 2) := by decide +kernel
theorem dX8_isLetter_9 : decode cX8_isLetter 9 = .ok (.if_icmp .gt 7, 3) := by decide +kernel
theorem dX8_isLetter_12 : decode cX8_isLetter 12 = .ok (.iconst 1, 1) := by decide +kernel
theorem dX8_isLetter_13 : decode cX8_isLetter 13 = .ok (.goto 4, 3) := by decide +kernel
theorem dX8_isLetter_16 : decode cX8_isLetter 16 = .ok (.iconst 0, 1) := by decide +kernel
theorem dX8_isLetter_17 : decode cX8_isLetter 17 = .ok (.ireturn, 1) := by decide +kernel
theorem dX8_isDigit_0 : decode cX8_isDigit 0 = .ok (.iload_n 0, 1) := by decide +kernel
theorem dX8_isDigit_1 : decode cX8_isDigit 1 = .ok (.bipush 48, 2) := by decide +kernel
theorem dX8_isDigit_3 : decode cX8_isDigit 3 = .ok (.if_icmp .lt 13, 3) := by decide +kernel
theorem dX8_isDigit_6 : decode cX8_isDigit 6 = .ok (.iload_n 0, 1) := by decide +kernel
theorem dX8_isDigit_7 : decode cX8_isDigit 7 = .ok (.bipush 57, 2) := by decide +kernel
theorem dX8_isDigit_9 : decode cX8_isDigit 9 = .ok (.if_icmp .gt 7, 3) := by decide +kernel
theorem dX8_isDigit_12 : decode cX8_isDigit 12 = .ok (.iconst 1, 1) := by decide +kernel
theorem dX8_isDigit_13 : decode cX8_isDigit 13 = .ok (.goto 4, 3) := by decide +kernel
theorem dX8_isDigit_16 : decode cX8_isDigit 16 = .ok (.iconst 0, 1) := by decide +kernel
theorem dX8_isDigit_17 : decode cX8_isDigit 17 = .ok (.ireturn, 1) := by decide +kernel
theorem dX9_init_0 : decode cX9_init 0 = .ok (.aload_n 0, 1) := by decide +kernel
theorem dX9_init_1 : decode cX9_init 1 = .ok (.invokespecial 3, 3) := by decide +kernel
theorem dX9_init_4 : decode cX9_init 4 = .ok (.aload_n 0, 1) := by decide +kernel
theorem dX9_init_5 : decode cX9_init 5 = .ok (.iconst 0, 1) := by decide +kernel
theorem dX9_init_6 : decode cX9_init 6 = .ok (.putfield 9, 3) := by decide +kernel
theorem dX9_init_9 : decode cX9_init 9 = .ok (.aload_n 0, 1) := by decide +kernel
theorem dX9_init_10 : decode cX9_init 10 = .ok (.bipush 40, 2) := by decide +kernel
theorem dX9_init_12 : decode cX9_init 12 = .ok (.anewarray 15, 3) := by decide +kernel
theorem dX9_init_15 : decode cX9_init 15 = .ok (.putfield 17, 3) := by decide +kernel
theorem dX9_init_18 : decode cX9_init 18 = .ok (.aload_n 0, 1) := by decide +kernel
theorem dX9_init_19 : decode cX9_init 19 = .ok (.iconst 0, 1) := by decide +kernel
theorem dX9_init_20 : decode cX9_init 20 = .ok (.putfield 21, 3) := by decide +kernel
theorem dX9_init_23 : decode cX9_init 23 = .ok (.iconst 0, 1) := by decide +kernel
theorem dX9_init_24 : decode cX9_init 24 = .ok (.istore_n 1, 1) := by decide +kernel
theorem dX9_init_25 : decode cX9_init 25 = .ok (.iload_n 1, 1) := by decide +kernel
theorem dX9_init_26 : decode cX9_init 26 = .ok (.bipush 40, 2) := by decide +kernel
theorem dX9_init_28 : decode cX9_init 28 = .ok (.if_icmp .ge 22, 3) := by decide +kernel
theorem dX9_init_31 : decode cX9_init 31 = .ok (.aload_n 0, 1) := by decide +kernel
theorem dX9_init_32 : decode cX9_init 32 = .ok (.getfield 17, 3) := by decide +kernel
theorem dX9_init_35 : decode cX9_init 35 = .ok (.iload_n 1, 1) := by decide +kernel
theorem dX9_init_36 : decode cX9_init 36 = .ok (.new 15, 3) := by decide +kernel
theorem dX9_init_39 : decode cX9_init 39 = .ok (.dup, 1) := by decide +kernel
theorem dX9_init_40 : decode cX9_init 40 = .ok (.invokespecial 24, 3) := by decide +kernel
theorem dX9_init_43 : decode cX9_init 43 = .ok (.aastore, 1) := by decide +kernel
theorem dX9_init_44 : decode cX9_init 44 = .ok (.iinc 1 1, 3) := by decide +kernel
theorem dX9_init_47 : decode cX9_init 47 = .ok (.goto (-22), 3) := by decide +kernel
theorem dX9_init_50 : decode cX9_init 50 = .ok (.return_, 1) := by decide +kernel
theorem dX9_keep_0 : decode cX9_keep 0 = .ok (.aload_n 0, 1) := by decide +kernel
theorem dX9_keep_1 : decode cX9_keep 1 = .ok (.getfield 17, 3) := by decide +kernel
theorem dX9_keep_4 : decode cX9_keep 4 = .ok (.aload_n 0, 1) := by decide +kernel
theorem dX9_keep_5 : decode cX9_keep 5 = .ok (.getfield 21, 3) := by decide +kernel
theorem dX9_keep_8 : decode cX9_keep 8 = .ok (.aaload, 1) := by decide +kernel
theorem dX9_keep_9 : decode cX9_keep 9 = .ok (.aload_n 1, 1) := by decide +kernel
theorem dX9_keep_10 : decode cX9_keep 10 = .ok (.invokevirtual 25, 3) := by decide +kernel
theorem dX9_keep_13 : decode cX9_keep 13 = .ok (.aload_n 0, 1) := by decide +kernel
theorem dX9_keep_14 : decode cX9_keep 14 = .ok (.aload_n 0, 1) := by decide +kernel
theorem dX9_keep_15 : decode cX9_keep 15 = .ok (.getfield 21, 3) := by decide +kernel
theorem dX9_keep_18 : decode cX9_keep 18 = .ok (.iconst 1, 1) := by decide +kernel
theorem dX9_keep_19 : decode cX9_keep 19 = .ok (.iadd, 1) := by decide +kernel
theorem dX9_keep_20 : decode cX9_keep 20 = .ok (.bipush 40, 2) := by decide +kernel
theorem dX9_keep_22 : decode cX9_keep 22 = .ok (.irem, 1) := by decide +kernel
theorem dX9_keep_23 : decode cX9_keep 23 = .ok (.putfield 21, 3) := by decide +kernel
theorem dX9_keep_26 : decode cX9_keep 26 = .ok (.aload_n 0, 1) := by decide +kernel
theorem dX9_keep_27 : decode cX9_keep 27 = .ok (.bipush 40, 2) := by decide +kernel
theorem dX9_keep_29 : decode cX9_keep 29 = .ok (.aload_n 0, 1) := by decide +kernel
theorem dX9_keep_30 : decode cX9_keep 30 = .ok (.getfield 9, 3) := by decide +kernel
theorem dX9_keep_33 : decode cX9_keep 33 = .ok (.iconst 1, 1) := by decide +kernel
theorem dX9_keep_34 : decode cX9_keep 34 = .ok (.iadd, 1) := by decide +kernel
theorem dX9_keep_35 : decode cX9_keep 35 = .ok (.invokestatic 29, 3) := by decide +kernel
theorem dX9_keep_38 : decode cX9_keep 38 = .ok (.putfield 9, 3) := by decide +kernel
theorem dX9_keep_41 : decode cX9_keep 41 = .ok (.return_, 1) := by decide +kernel
theorem dX9_takeBack_0 : decode cX9_takeBack 0 = .ok (.aload_n 0, 1) := by decide +kernel
theorem dX9_takeBack_1 : decode cX9_takeBack 1 = .ok (.getfield 9, 3) := by decide +kernel
theorem dX9_takeBack_4 : decode cX9_takeBack 4 = .ok (.ifCond .ne 5, 3) := by decide +kernel
theorem dX9_takeBack_7 : decode cX9_takeBack 7 = .ok (.iconst 0, 1) := by decide +kernel
theorem dX9_takeBack_8 : decode cX9_takeBack 8 = .ok (.ireturn, 1) := by decide +kernel
theorem dX9_takeBack_9 : decode cX9_takeBack 9 = .ok (.aload_n 0, 1) := by decide +kernel
theorem dX9_takeBack_10 : decode cX9_takeBack 10 = .ok (.aload_n 0, 1) := by decide +kernel
theorem dX9_takeBack_11 : decode cX9_takeBack 11 = .ok (.getfield 21, 3) := by decide +kernel
theorem dX9_takeBack_14 : decode cX9_takeBack 14 = .ok (.bipush 40, 2) := by decide +kernel
theorem dX9_takeBack_16 : decode cX9_takeBack 16 = .ok (.iadd, 1) := by decide +kernel
theorem dX9_takeBack_17 : decode cX9_takeBack 17 = .ok (.iconst 1, 1) := by decide +kernel
theorem dX9_takeBack_18 : decode cX9_takeBack 18 = .ok (.isub, 1) := by decide +kernel
theorem dX9_takeBack_19 : decode cX9_takeBack 19 = .ok (.bipush 40, 2) := by decide +kernel
theorem dX9_takeBack_21 : decode cX9_takeBack 21 = .ok (.irem, 1) := by decide +kernel
theorem dX9_takeBack_22 : decode cX9_takeBack 22 = .ok (.putfield 21, 3) := by decide +kernel
theorem dX9_takeBack_25 : decode cX9_takeBack 25 = .ok (.aload_n 1, 1) := by decide +kernel
theorem dX9_takeBack_26 : decode cX9_takeBack 26 = .ok (.aload_n 0, 1) := by decide +kernel
theorem dX9_takeBack_27 : decode cX9_takeBack 27 = .ok (.getfield 17, 3) := by decide +kernel
theorem dX9_takeBack_30 : decode cX9_takeBack 30 = .ok (.aload_n 0, 1) := by decide +kernel
theorem dX9_takeBack_31 : decode cX9_takeBack 31 = .ok (.getfield 21, 3) := by decide +kernel
theorem dX9_takeBack_34 : decode cX9_takeBack 34 = .ok (.aaload, 1) := by decide +kernel
theorem dX9_takeBack_35 : decode cX9_takeBack 35 = .ok (.invokevirtual 25, 3) := by decide +kernel
theorem dX9_takeBack_38 : decode cX9_takeBack 38 = .ok (.aload_n 0, 1) := by decide +kernel
theorem dX9_takeBack_39 : decode cX9_takeBack 39 = .ok (.dup, 1) := by decide +kernel
theorem dX9_takeBack_40 : decode cX9_takeBack 40 = .ok (.getfield 9, 3) := by decide +kernel
theorem dX9_takeBack_43 : decode cX9_takeBack 43 = .ok (.iconst 1, 1) := by decide +kernel
theorem dX9_takeBack_44 : decode cX9_takeBack 44 = .ok (.isub, 1) := by decide +kernel
theorem dX9_takeBack_45 : decode cX9_takeBack 45 = .ok (.putfield 9, 3) := by decide +kernel
theorem dX9_takeBack_48 : decode cX9_takeBack 48 = .ok (.iconst 1, 1) := by decide +kernel
theorem dX9_takeBack_49 : decode cX9_takeBack 49 = .ok (.ireturn, 1) := by decide +kernel
theorem dX10_init_0 : decode cX10_init 0 = .ok (.aload_n 0, 1) := by decide +kernel
theorem dX10_init_1 : decode cX10_init 1 = .ok (.invokespecial 3, 3) := by decide +kernel
theorem dX10_init_4 : decode cX10_init 4 = .ok (.aload_n 0, 1) := by decide +kernel
theorem dX10_init_5 : decode cX10_init 5 = .ok (.new 9, 3) := by decide +kernel
theorem dX10_init_8 : decode cX10_init 8 = .ok (.dup, 1) := by decide +kernel
theorem dX10_init_9 : decode cX10_init 9 = .ok (.invokespecial 11, 3) := by decide +kernel
theorem dX10_init_12 : decode cX10_init 12 = .ok (.putfield 12, 3) := by decide +kernel
theorem dX10_init_15 : decode cX10_init 15 = .ok (.aload_n 0, 1) := by decide +kernel
theorem dX10_init_16 : decode cX10_init 16 = .ok (.new 16, 3) := by decide +kernel
theorem dX10_init_19 : decode cX10_init 19 = .ok (.dup, 1) := by decide +kernel
theorem dX10_init_20 : decode cX10_init 20 = .ok (.invokespecial 18, 3) := by decide +kernel
theorem dX10_init_23 : decode cX10_init 23 = .ok (.putfield 19, 3) := by decide +kernel
theorem dX10_init_26 : decode cX10_init 26 = .ok (.aload_n 0, 1) := by decide +kernel
theorem dX10_init_27 : decode cX10_init 27 = .ok (.new 23, 3) := by decide +kernel
theorem dX10_init_30 : decode cX10_init 30 = .ok (.dup, 1) := by decide +kernel
theorem dX10_init_31 : decode cX10_init 31 = .ok (.invokespecial 25, 3) := by decide +kernel
theorem dX10_init_34 : decode cX10_init 34 = .ok (.putfield 26, 3) := by decide +kernel
theorem dX10_init_37 : decode cX10_init 37 = .ok (.aload_n 0, 1) := by decide +kernel
theorem dX10_init_38 : decode cX10_init 38 = .ok (.new 23, 3) := by decide +kernel
theorem dX10_init_41 : decode cX10_init 41 = .ok (.dup, 1) := by decide +kernel
theorem dX10_init_42 : decode cX10_init 42 = .ok (.invokespecial 25, 3) := by decide +kernel
theorem dX10_init_45 : decode cX10_init 45 = .ok (.putfield 30, 3) := by decide +kernel
theorem dX10_init_48 : decode cX10_init 48 = .ok (.aload_n 0, 1) := by decide +kernel
theorem dX10_init_49 : decode cX10_init 49 = .ok (.new 33, 3) := by decide +kernel
theorem dX10_init_52 : decode cX10_init 52 = .ok (.dup, 1) := by decide +kernel
theorem dX10_init_53 : decode cX10_init 53 = .ok (.invokespecial 35, 3) := by decide +kernel
theorem dX10_init_56 : decode cX10_init 56 = .ok (.putfield 36, 3) := by decide +kernel
theorem dX10_init_59 : decode cX10_init 59 = .ok (.aload_n 0, 1) := by decide +kernel
theorem dX10_init_60 : decode cX10_init 60 = .ok (.iconst 3, 1) := by decide +kernel
theorem dX10_init_61 : decode cX10_init 61 = .ok (.anewarray 23, 3) := by decide +kernel
theorem dX10_init_64 : decode cX10_init 64 = .ok (.putfield 40, 3) := by decide +kernel
theorem dX10_init_67 : decode cX10_init 67 = .ok (.aload_n 0, 1) := by decide +kernel
theorem dX10_init_68 : decode cX10_init 68 = .ok (.new 44, 3) := by decide +kernel
theorem dX10_init_71 : decode cX10_init 71 = .ok (.dup, 1) := by decide +kernel
theorem dX10_init_72 : decode cX10_init 72 = .ok (.invokespecial 46, 3) := by decide +kernel
theorem dX10_init_75 : decode cX10_init 75 = .ok (.putfield 47, 3) := by decide +kernel
theorem dX10_init_78 : decode cX10_init 78 = .ok (.aload_n 0, 1) := by decide +kernel
theorem dX10_init_79 : decode cX10_init 79 = .ok (.new 51, 3) := by decide +kernel
theorem dX10_init_82 : decode cX10_init 82 = .ok (.dup, 1) := by decide +kernel
theorem dX10_init_83 : decode cX10_init 83 = .ok (.invokespecial 53, 3) := by decide +kernel
theorem dX10_init_86 : decode cX10_init 86 = .ok (.putfield 54, 3) := by decide +kernel
theorem dX10_init_89 : decode cX10_init 89 = .ok (.aload_n 0, 1) := by decide +kernel
theorem dX10_init_90 : decode cX10_init 90 = .ok (.new 58, 3) := by decide +kernel
theorem dX10_init_93 : decode cX10_init 93 = .ok (.dup, 1) := by decide +kernel
theorem dX10_init_94 : decode cX10_init 94 = .ok (.invokespecial 60, 3) := by decide +kernel
theorem dX10_init_97 : decode cX10_init 97 = .ok (.putfield 61, 3) := by decide +kernel
theorem dX10_init_100 : decode cX10_init 100 = .ok (.aload_n 0, 1) := by decide +kernel
theorem dX10_init_101 : decode cX10_init 101 = .ok (.new 65, 3) := by decide +kernel
theorem dX10_init_104 : decode cX10_init 104 = .ok (.dup, 1) := by decide +kernel
theorem dX10_init_105 : decode cX10_init 105 = .ok (.invokespecial 67, 3) := by decide +kernel
theorem dX10_init_108 : decode cX10_init 108 = .ok (.putfield 68, 3) := by decide +kernel
theorem dX10_init_111 : decode cX10_init 111 = .ok (.aload_n 0, 1) := by decide +kernel
theorem dX10_init_112 : decode cX10_init 112 = .ok (.new 65, 3) := by decide +kernel
theorem dX10_init_115 : decode cX10_init 115 = .ok (.dup, 1) := by decide +kernel
theorem dX10_init_116 : decode cX10_init 116 = .ok (.invokespecial 67, 3) := by decide +kernel
theorem dX10_init_119 : decode cX10_init 119 = .ok (.putfield 72, 3) := by decide +kernel
theorem dX10_init_122 : decode cX10_init 122 = .ok (.aload_n 0, 1) := by decide +kernel
theorem dX10_init_123 : decode cX10_init 123 = .ok (.iconst 0, 1) := by decide +kernel
theorem dX10_init_124 : decode cX10_init 124 = .ok (.putfield 75, 3) := by decide +kernel
theorem dX10_init_127 : decode cX10_init 127 = .ok (.iconst 0, 1) := by decide +kernel
theorem dX10_init_128 : decode cX10_init 128 = .ok (.istore_n 1, 1) := by decide +kernel
theorem dX10_init_129 : decode cX10_init 129 = .ok (.iload_n 1, 1) := by decide +kernel
theorem dX10_init_130 : decode cX10_init 130 = .ok (.iconst 3, 1) := by decide +kernel
theorem dX10_init_131 : decode cX10_init 131 = .ok (.if_icmp .ge 22, 3) := by decide +kernel
theorem dX10_init_134 : decode cX10_init 134 = .ok (.aload_n 0, 1) := by decide +kernel
theorem dX10_init_135 : decode cX10_init 135 = .ok (.getfield 40, 3) := by decide +kernel
theorem dX10_init_138 : decode cX10_init 138 = .ok (.iload_n 1, 1) := by decide +kernel
theorem dX10_init_139 : decode cX10_init 139 = .ok (.new 23, 3) := by decide +kernel
theorem dX10_init_142 : decode cX10_init 142 = .ok (.dup, 1) := by decide +kernel
theorem dX10_init_143 : decode cX10_init 143 = .ok (.invokespecial 25, 3) := by decide +kernel
theorem dX10_init_146 : decode cX10_init 146 = .ok (.aastore, 1) := by decide +kernel
theorem dX10_init_147 : decode cX10_init 147 = .ok (.iinc 1 1, 3) := by decide +kernel
theorem dX10_init_150 : decode cX10_init 150 = .ok (.goto (-21), 3) := by decide +kernel
theorem dX10_init_153 : decode cX10_init 153 = .ok (.return_, 1) := by decide +kernel
theorem dX10_feed_0 : decode cX10_feed 0 = .ok (.aload_n 0, 1) := by decide +kernel
theorem dX10_feed_1 : decode cX10_feed 1 = .ok (.getfield 12, 3) := by decide +kernel
theorem dX10_feed_4 : decode cX10_feed 4 = .ok (.bipush 20, 2) := by decide +kernel
theorem dX10_feed_6 : decode cX10_feed 6 = .ok (.invokevirtual 79, 3) := by decide +kernel
theorem dX10_feed_9 : decode cX10_feed 9 = .ok (.ifCond .ne 5, 3) := by decide +kernel
theorem dX10_feed_12 : decode cX10_feed 12 = .ok (.iconst (-1), 1) := by decide +kernel
theorem dX10_feed_13 : decode cX10_feed 13 = .ok (.ireturn, 1) := by decide +kernel
theorem dX10_feed_14 : decode cX10_feed 14 = .ok (.aload_n 0, 1) := by decide +kernel
theorem dX10_feed_15 : decode cX10_feed 15 = .ok (.getfield 12, 3) := by decide +kernel
theorem dX10_feed_18 : decode cX10_feed 18 = .ok (.iload_n 1, 1) := by decide +kernel
theorem dX10_feed_19 : decode cX10_feed 19 = .ok (.invokevirtual 83, 3) := by decide +kernel
theorem dX10_feed_22 : decode cX10_feed 22 = .ok (.aload_n 0, 1) := by decide +kernel
theorem dX10_feed_23 : decode cX10_feed 23 = .ok (.getfield 12, 3) := by decide +kernel
theorem dX10_feed_26 : decode cX10_feed 26 = .ok (.iload_n 2, 1) := by decide +kernel
theorem dX10_feed_27 : decode cX10_feed 27 = .ok (.invokevirtual 83, 3) := by decide +kernel
theorem dX10_feed_30 : decode cX10_feed 30 = .ok (.aload_n 0, 1) := by decide +kernel
theorem dX10_feed_31 : decode cX10_feed 31 = .ok (.getfield 12, 3) := by decide +kernel
theorem dX10_feed_34 : decode cX10_feed 34 = .ok (.iload_n 3, 1) := by decide +kernel
theorem dX10_feed_35 : decode cX10_feed 35 = .ok (.invokevirtual 83, 3) := by decide +kernel
theorem dX10_feed_38 : decode cX10_feed 38 = .ok (.aload_n 0, 1) := by decide +kernel
theorem dX10_feed_39 : decode cX10_feed 39 = .ok (.getfield 12, 3) := by decide +kernel
theorem dX10_feed_42 : decode cX10_feed 42 = .ok (.iload 4, 2) := by decide +kernel
theorem dX10_feed_44 : decode cX10_feed 44 = .ok (.invokevirtual 83, 3) := by decide +kernel
theorem dX10_feed_47 : decode cX10_feed 47 = .ok (.aload_n 0, 1) := by decide +kernel
theorem dX10_feed_48 : decode cX10_feed 48 = .ok (.getfield 12, 3) := by decide +kernel
theorem dX10_feed_51 : decode cX10_feed 51 = .ok (.iload 5, 2) := by decide +kernel
theorem dX10_feed_53 : decode cX10_feed 53 = .ok (.invokevirtual 83, 3) := by decide +kernel
theorem dX10_feed_56 : decode cX10_feed 56 = .ok (.aload_n 0, 1) := by decide +kernel
theorem dX10_feed_57 : decode cX10_feed 57 = .ok (.getfield 12, 3) := by decide +kernel
theorem dX10_feed_60 : decode cX10_feed 60 = .ok (.getfield 87, 3) := by decide +kernel
theorem dX10_feed_63 : decode cX10_feed 63 = .ok (.ireturn, 1) := by decide +kernel
theorem dX10_back_0 : decode cX10_back 0 = .ok (.iload_n 1, 1) := by decide +kernel
theorem dX10_back_1 : decode cX10_back 1 = .ok (.ifCond .lt 14, 3) := by decide +kernel
theorem dX10_back_4 : decode cX10_back 4 = .ok (.iload_n 1, 1) := by decide +kernel
theorem dX10_back_5 : decode cX10_back 5 = .ok (.aload_n 0, 1) := by decide +kernel
theorem dX10_back_6 : decode cX10_back 6 = .ok (.getfield 12, 3) := by decide +kernel
theorem dX10_back_9 : decode cX10_back 9 = .ok (.getfield 87, 3) := by decide +kernel
theorem dX10_back_12 : decode cX10_back 12 = .ok (.if_icmp .le 5, 3) := by decide +kernel
theorem dX10_back_15 : decode cX10_back 15 = .ok (.iconst (-1), 1) := by decide +kernel
theorem dX10_back_16 : decode cX10_back 16 = .ok (.ireturn, 1) := by decide +kernel
theorem dX10_back_17 : decode cX10_back 17 = .ok (.aload_n 0, 1) := by decide +kernel
theorem dX10_back_18 : decode cX10_back 18 = .ok (.getfield 12, 3) := by decide +kernel
theorem dX10_back_21 : decode cX10_back 21 = .ok (.dup, 1) := by decide +kernel
theorem dX10_back_22 : decode cX10_back 22 = .ok (.getfield 87, 3) := by decide +kernel
theorem dX10_back_25 : decode cX10_back 25 = .ok (.iload_n 1, 1) := by decide +kernel
theorem dX10_back_26 : decode cX10_back 26 = .ok (.isub, 1) := by decide +kernel
theorem dX10_back_27 : decode cX10_back 27 = .ok (.putfield 87, 3) := by decide +kernel
theorem dX10_back_30 : decode cX10_back 30 = .ok (.aload_n 0, 1) := by decide +kernel
theorem dX10_back_31 : decode cX10_back 31 = .ok (.getfield 12, 3) := by decide +kernel
theorem dX10_back_34 : decode cX10_back 34 = .ok (.getfield 87, 3) := by decide +kernel
theorem dX10_back_37 : decode cX10_back 37 = .ok (.ireturn, 1) := by decide +kernel
theorem dX10_read_0 : decode cX10_read 0 = .ok (.aload_n 0, 1) := by decide +kernel
theorem dX10_read_1 : decode cX10_read 1 = .ok (.getfield 19, 3) := by decide +kernel
theorem dX10_read_4 : decode cX10_read 4 = .ok (.aload_n 0, 1) := by decide +kernel
theorem dX10_read_5 : decode cX10_read 5 = .ok (.getfield 12, 3) := by decide +kernel
theorem dX10_read_8 : decode cX10_read 8 = .ok (.aload_n 0, 1) := by decide +kernel
theorem dX10_read_9 : decode cX10_read 9 = .ok (.getfield 72, 3) := by decide +kernel
theorem dX10_read_12 : decode cX10_read 12 = .ok (.invokevirtual 90, 3) := by decide +kernel
theorem dX10_read_15 : decode cX10_read 15 = .ok (.aload_n 0, 1) := by decide +kernel
theorem dX10_read_16 : decode cX10_read 16 = .ok (.getfield 12, 3) := by decide +kernel
theorem dX10_read_19 : decode cX10_read 19 = .ok (.iconst 0, 1) := by decide +kernel
theorem dX10_read_20 : decode cX10_read 20 = .ok (.putfield 87, 3) := by decide +kernel
theorem dX10_read_23 : decode cX10_read 23 = .ok (.aload_n 0, 1) := by decide +kernel
theorem dX10_read_24 : decode cX10_read 24 = .ok (.getfield 19, 3) := by decide +kernel
theorem dX10_read_27 : decode cX10_read 27 = .ok (.getfield 94, 3) := by decide +kernel
theorem dX10_read_30 : decode cX10_read 30 = .ok (.ifCond .ne 49, 3) := by decide +kernel
theorem dX10_read_33 : decode cX10_read 33 = .ok (.aload_n 0, 1) := by decide +kernel
theorem dX10_read_34 : decode cX10_read 34 = .ok (.getfield 68, 3) := by decide +kernel
theorem dX10_read_37 : decode cX10_read 37 = .ok (.astore_n 1, 1) := by decide +kernel
theorem dX10_read_38 : decode cX10_read 38 = .ok (.aload_n 0, 1) := by decide +kernel
theorem dX10_read_39 : decode cX10_read 39 = .ok (.aload_n 0, 1) := by decide +kernel
theorem dX10_read_40 : decode cX10_read 40 = .ok (.getfield 72, 3) := by decide +kernel
theorem dX10_read_43 : decode cX10_read 43 = .ok (.putfield 68, 3) := by decide +kernel
theorem dX10_read_46 : decode cX10_read 46 = .ok (.aload_n 0, 1) := by decide +kernel
theorem dX10_read_47 : decode cX10_read 47 = .ok (.aload_n 1, 1) := by decide +kernel
theorem dX10_read_48 : decode cX10_read 48 = .ok (.putfield 72, 3) := by decide +kernel
theorem dX10_read_51 : decode cX10_read 51 = .ok (.aload_n 0, 1) := by decide +kernel
theorem dX10_read_52 : decode cX10_read 52 = .ok (.getfield 26, 3) := by decide +kernel
theorem dX10_read_55 : decode cX10_read 55 = .ok (.invokevirtual 97, 3) := by decide +kernel
theorem dX10_read_58 : decode cX10_read 58 = .ok (.aload_n 0, 1) := by decide +kernel
theorem dX10_read_59 : decode cX10_read 59 = .ok (.getfield 36, 3) := by decide +kernel
theorem dX10_read_62 : decode cX10_read 62 = .ok (.iconst 0, 1) := by decide +kernel
theorem dX10_read_63 : decode cX10_read 63 = .ok (.putfield 100, 3) := by decide +kernel
theorem dX10_read_66 : decode cX10_read 66 = .ok (.aload_n 0, 1) := by decide +kernel
theorem dX10_read_67 : decode cX10_read 67 = .ok (.getfield 61, 3) := by decide +kernel
theorem dX10_read_70 : decode cX10_read 70 = .ok (.iconst 0, 1) := by decide +kernel
theorem dX10_read_71 : decode cX10_read 71 = .ok (.putfield 103, 3) := by decide +kernel
theorem dX10_read_74 : decode cX10_read 74 = .ok (.aload_n 0, 1) := by decide +kernel
theorem dX10_read_75 : decode cX10_read 75 = .ok (.iconst 0, 1) := by decide +kernel
theorem dX10_read_76 : decode cX10_read 76 = .ok (.putfield 75, 3) := by decide +kernel
theorem dX10_read_79 : decode cX10_read 79 = .ok (.aload_n 0, 1) := by decide +kernel
theorem dX10_read_80 : decode cX10_read 80 = .ok (.getfield 19, 3) := by decide +kernel
theorem dX10_read_83 : decode cX10_read 83 = .ok (.getfield 94, 3) := by decide +kernel
theorem dX10_read_86 : decode cX10_read 86 = .ok (.ireturn, 1) := by decide +kernel
theorem dX10_place_0 : decode cX10_place 0 = .ok (.aload_n 0, 1) := by decide +kernel
theorem dX10_place_1 : decode cX10_place 1 = .ok (.getfield 19, 3) := by decide +kernel
theorem dX10_place_4 : decode cX10_place 4 = .ok (.getfield 104, 3) := by decide +kernel
theorem dX10_place_7 : decode cX10_place 7 = .ok (.ireturn, 1) := by decide +kernel
theorem dX10_sunday_0 : decode cX10_sunday 0 = .ok (.aload_n 0, 1) := by decide +kernel
theorem dX10_sunday_1 : decode cX10_sunday 1 = .ok (.iload_n 1, 1) := by decide +kernel
theorem dX10_sunday_2 : decode cX10_sunday 2 = .ok (.invokevirtual 107, 3) := by decide +kernel
theorem dX10_sunday_5 : decode cX10_sunday 5 = .ok (.ifCond .ne 5, 3) := by decide +kernel
theorem dX10_sunday_8 : decode cX10_sunday 8 = .ok (.iconst (-1), 1) := by decide +kernel
theorem dX10_sunday_9 : decode cX10_sunday 9 = .ok (.ireturn, 1) := by decide +kernel
theorem dX10_sunday_10 : decode cX10_sunday 10 = .ok (.iload_n 2, 1) := by decide +kernel
theorem dX10_sunday_11 : decode cX10_sunday 11 = .ok (.tableswitch 150 0 6 #[41, 51, 61, 71, 88, 98, 132], 41) := by decide +kernel
theorem dX10_sunday_52 : decode cX10_sunday 52 = .ok (.aload_n 0, 1) := by decide +kernel
theorem dX10_sunday_53 : decode cX10_sunday 53 = .ok (.getfield 68, 3) := by decide +kernel
theorem dX10_sunday_56 : decode cX10_sunday 56 = .ok (.getfield 110, 3) := by decide +kernel
theorem dX10_sunday_59 : decode cX10_sunday 59 = .ok (.iload_n 1, 1) := by decide +kernel
theorem dX10_sunday_60 : decode cX10_sunday 60 = .ok (.iaload, 1) := by decide +kernel
theorem dX10_sunday_61 : decode cX10_sunday 61 = .ok (.ireturn, 1) := by decide +kernel
theorem dX10_sunday_62 : decode cX10_sunday 62 = .ok (.aload_n 0, 1) := by decide +kernel
theorem dX10_sunday_63 : decode cX10_sunday 63 = .ok (.getfield 68, 3) := by decide +kernel
theorem dX10_sunday_66 : decode cX10_sunday 66 = .ok (.getfield 114, 3) := by decide +kernel
theorem dX10_sunday_69 : decode cX10_sunday 69 = .ok (.iload_n 1, 1) := by decide +kernel
theorem dX10_sunday_70 : decode cX10_sunday 70 = .ok (.iaload, 1) := by decide +kernel
theorem dX10_sunday_71 : decode cX10_sunday 71 = .ok (.ireturn, 1) := by decide +kernel
theorem dX10_sunday_72 : decode cX10_sunday 72 = .ok (.aload_n 0, 1) := by decide +kernel
theorem dX10_sunday_73 : decode cX10_sunday 73 = .ok (.getfield 26, 3) := by decide +kernel
theorem dX10_sunday_76 : decode cX10_sunday 76 = .ok (.getfield 117, 3) := by decide +kernel
theorem dX10_sunday_79 : decode cX10_sunday 79 = .ok (.iload_n 1, 1) := by decide +kernel
theorem dX10_sunday_80 : decode cX10_sunday 80 = .ok (.iaload, 1) := by decide +kernel
theorem dX10_sunday_81 : decode cX10_sunday 81 = .ok (.ireturn, 1) := by decide +kernel
theorem dX10_sunday_82 : decode cX10_sunday 82 = .ok (.aload_n 0, 1) := by decide +kernel
theorem dX10_sunday_83 : decode cX10_sunday 83 = .ok (.getfield 26, 3) := by decide +kernel
theorem dX10_sunday_86 : decode cX10_sunday 86 = .ok (.iload_n 1, 1) := by decide +kernel
theorem dX10_sunday_87 : decode cX10_sunday 87 = .ok (.invokevirtual 120, 3) := by decide +kernel
theorem dX10_sunday_90 : decode cX10_sunday 90 = .ok (.ifCond .eq 7, 3) := by decide +kernel
theorem dX10_sunday_93 : decode cX10_sunday 93 = .ok (.iconst 1, 1) := by decide +kernel
theorem dX10_sunday_94 : decode cX10_sunday 94 = .ok (.goto 4, 3) := by decide +kernel
theorem dX10_sunday_97 : decode cX10_sunday 97 = .ok (.iconst 0, 1) := by decide +kernel
theorem dX10_sunday_98 : decode cX10_sunday 98 = .ok (.ireturn, 1) := by decide +kernel
theorem dX10_sunday_99 : decode cX10_sunday 99 = .ok (.aload_n 0, 1) := by decide +kernel
theorem dX10_sunday_100 : decode cX10_sunday 100 = .ok (.getfield 26, 3) := by decide +kernel
theorem dX10_sunday_103 : decode cX10_sunday 103 = .ok (.getfield 123, 3) := by decide +kernel
theorem dX10_sunday_106 : decode cX10_sunday 106 = .ok (.iload_n 1, 1) := by decide +kernel
theorem dX10_sunday_107 : decode cX10_sunday 107 = .ok (.iaload, 1) := by decide +kernel
theorem dX10_sunday_108 : decode cX10_sunday 108 = .ok (.ireturn, 1) := by decide +kernel
theorem dX10_sunday_109 : decode cX10_sunday 109 = .ok (.aload_n 0, 1) := by decide +kernel
theorem dX10_sunday_110 : decode cX10_sunday 110 = .ok (.getfield 26, 3) := by decide +kernel
theorem dX10_sunday_113 : decode cX10_sunday 113 = .ok (.getfield 123, 3) := by decide +kernel
theorem dX10_sunday_116 : decode cX10_sunday 116 = .ok (.iload_n 1, 1) := by decide +kernel
theorem dX10_sunday_117 : decode cX10_sunday 117 = .ok (.iaload, 1) := by decide +kernel
theorem dX10_sunday_118 : decode cX10_sunday 118 = .ok (.ifCond .ne 7, 3) := by decide +kernel
theorem dX10_sunday_121 : decode cX10_sunday 121 = .ok (.iconst 0, 1) := by decide +kernel
theorem dX10_sunday_122 : decode cX10_sunday 122 = .ok (.goto 20, 3) := by decide +kernel
theorem dX10_sunday_125 : decode cX10_sunday 125 = .ok (.aload_n 0, 1) := by decide +kernel
theorem dX10_sunday_126 : decode cX10_sunday 126 = .ok (.getfield 47, 3) := by decide +kernel
theorem dX10_sunday_129 : decode cX10_sunday 129 = .ok (.iconst 2, 1) := by decide +kernel
theorem dX10_sunday_130 : decode cX10_sunday 130 = .ok (.aload_n 0, 1) := by decide +kernel
theorem dX10_sunday_131 : decode cX10_sunday 131 = .ok (.getfield 68, 3) := by decide +kernel
theorem dX10_sunday_134 : decode cX10_sunday 134 = .ok (.aload_n 0, 1) := by decide +kernel
theorem dX10_sunday_135 : decode cX10_sunday 135 = .ok (.getfield 26, 3) := by decide +kernel
theorem dX10_sunday_138 : decode cX10_sunday 138 = .ok (.iload_n 1, 1) := by decide +kernel
theorem dX10_sunday_139 : decode cX10_sunday 139 = .ok (.invokevirtual 126, 3) := by decide +kernel
theorem dX10_sunday_142 : decode cX10_sunday 142 = .ok (.ireturn, 1) := by decide +kernel
theorem dX10_sunday_143 : decode cX10_sunday 143 = .ok (.aload_n 0, 1) := by decide +kernel
theorem dX10_sunday_144 : decode cX10_sunday 144 = .ok (.getfield 47, 3) := by decide +kernel
theorem dX10_sunday_147 : decode cX10_sunday 147 = .ok (.iconst 3, 1) := by decide +kernel
theorem dX10_sunday_148 : decode cX10_sunday 148 = .ok (.aload_n 0, 1) := by decide +kernel
theorem dX10_sunday_149 : decode cX10_sunday 149 = .ok (.getfield 68, 3) := by decide +kernel
theorem dX10_sunday_152 : decode cX10_sunday 152 = .ok (.aload_n 0, 1) := by decide +kernel
theorem dX10_sunday_153 : decode cX10_sunday 153 = .ok (.getfield 26, 3) := by decide +kernel
theorem dX10_sunday_156 : decode cX10_sunday 156 = .ok (.iload_n 1, 1) := by decide +kernel
theorem dX10_sunday_157 : decode cX10_sunday 157 = .ok (.invokevirtual 126, 3) := by decide +kernel
theorem dX10_sunday_160 : decode cX10_sunday 160 = .ok (.ireturn, 1) := by decide +kernel
theorem dX10_sunday_161 : decode cX10_sunday 161 = .ok (.iconst (-1), 1) := by decide +kernel
theorem dX10_sunday_162 : decode cX10_sunday 162 = .ok (.ireturn, 1) := by decide +kernel
theorem dX10_guest_0 : decode cX10_guest 0 = .ok (.aload_n 0, 1) := by decide +kernel
theorem dX10_guest_1 : decode cX10_guest 1 = .ok (.iload_n 1, 1) := by decide +kernel
theorem dX10_guest_2 : decode cX10_guest 2 = .ok (.invokevirtual 130, 3) := by decide +kernel
theorem dX10_guest_5 : decode cX10_guest 5 = .ok (.ifCond .ne 5, 3) := by decide +kernel
theorem dX10_guest_8 : decode cX10_guest 8 = .ok (.iconst (-1), 1) := by decide +kernel
theorem dX10_guest_9 : decode cX10_guest 9 = .ok (.ireturn, 1) := by decide +kernel
theorem dX10_guest_10 : decode cX10_guest 10 = .ok (.iload_n 2, 1) := by decide +kernel
theorem dX10_guest_11 : decode cX10_guest 11 = .ok (.tableswitch 147 0 7 #[45, 55, 65, 75, 84, 94, 111, 129], 45) := by decide +kernel
theorem dX10_guest_56 : decode cX10_guest 56 = .ok (.aload_n 0, 1) := by decide +kernel
theorem dX10_guest_57 : decode cX10_guest 57 = .ok (.getfield 68, 3) := by decide +kernel
theorem dX10_guest_60 : decode cX10_guest 60 = .ok (.getfield 133, 3) := by decide +kernel
theorem dX10_guest_63 : decode cX10_guest 63 = .ok (.iload_n 1, 1) := by decide +kernel
theorem dX10_guest_64 : decode cX10_guest 64 = .ok (.iaload, 1) := by decide +kernel
theorem dX10_guest_65 : decode cX10_guest 65 = .ok (.ireturn, 1) := by decide +kernel
theorem dX10_guest_66 : decode cX10_guest 66 = .ok (.aload_n 0, 1) := by decide +kernel
theorem dX10_guest_67 : decode cX10_guest 67 = .ok (.getfield 68, 3) := by decide +kernel
theorem dX10_guest_70 : decode cX10_guest 70 = .ok (.getfield 136, 3) := by decide +kernel
theorem dX10_guest_73 : decode cX10_guest 73 = .ok (.iload_n 1, 1) := by decide +kernel
theorem dX10_guest_74 : decode cX10_guest 74 = .ok (.iaload, 1) := by decide +kernel
theorem dX10_guest_75 : decode cX10_guest 75 = .ok (.ireturn, 1) := by decide +kernel
theorem dX10_guest_76 : decode cX10_guest 76 = .ok (.aload_n 0, 1) := by decide +kernel
theorem dX10_guest_77 : decode cX10_guest 77 = .ok (.getfield 68, 3) := by decide +kernel
theorem dX10_guest_80 : decode cX10_guest 80 = .ok (.getfield 139, 3) := by decide +kernel
theorem dX10_guest_83 : decode cX10_guest 83 = .ok (.iload_n 1, 1) := by decide +kernel
theorem dX10_guest_84 : decode cX10_guest 84 = .ok (.iaload, 1) := by decide +kernel
theorem dX10_guest_85 : decode cX10_guest 85 = .ok (.ireturn, 1) := by decide +kernel
theorem dX10_guest_86 : decode cX10_guest 86 = .ok (.aload_n 0, 1) := by decide +kernel
theorem dX10_guest_87 : decode cX10_guest 87 = .ok (.getfield 26, 3) := by decide +kernel
theorem dX10_guest_90 : decode cX10_guest 90 = .ok (.iload_n 1, 1) := by decide +kernel
theorem dX10_guest_91 : decode cX10_guest 91 = .ok (.invokevirtual 142, 3) := by decide +kernel
theorem dX10_guest_94 : decode cX10_guest 94 = .ok (.ireturn, 1) := by decide +kernel
theorem dX10_guest_95 : decode cX10_guest 95 = .ok (.aload_n 0, 1) := by decide +kernel
theorem dX10_guest_96 : decode cX10_guest 96 = .ok (.getfield 26, 3) := by decide +kernel
theorem dX10_guest_99 : decode cX10_guest 99 = .ok (.getfield 146, 3) := by decide +kernel
theorem dX10_guest_102 : decode cX10_guest 102 = .ok (.iload_n 1, 1) := by decide +kernel
theorem dX10_guest_103 : decode cX10_guest 103 = .ok (.iaload, 1) := by decide +kernel
theorem dX10_guest_104 : decode cX10_guest 104 = .ok (.ireturn, 1) := by decide +kernel
theorem dX10_guest_105 : decode cX10_guest 105 = .ok (.aload_n 0, 1) := by decide +kernel
theorem dX10_guest_106 : decode cX10_guest 106 = .ok (.getfield 26, 3) := by decide +kernel
theorem dX10_guest_109 : decode cX10_guest 109 = .ok (.iload_n 1, 1) := by decide +kernel
theorem dX10_guest_110 : decode cX10_guest 110 = .ok (.invokevirtual 149, 3) := by decide +kernel
theorem dX10_guest_113 : decode cX10_guest 113 = .ok (.ifCond .eq 7, 3) := by decide +kernel
theorem dX10_guest_116 : decode cX10_guest 116 = .ok (.iconst 1, 1) := by decide +kernel
theorem dX10_guest_117 : decode cX10_guest 117 = .ok (.goto 4, 3) := by decide +kernel
theorem dX10_guest_120 : decode cX10_guest 120 = .ok (.iconst 0, 1) := by decide +kernel
theorem dX10_guest_121 : decode cX10_guest 121 = .ok (.ireturn, 1) := by decide +kernel
theorem dX10_guest_122 : decode cX10_guest 122 = .ok (.aload_n 0, 1) := by decide +kernel
theorem dX10_guest_123 : decode cX10_guest 123 = .ok (.getfield 47, 3) := by decide +kernel
theorem dX10_guest_126 : decode cX10_guest 126 = .ok (.iconst 0, 1) := by decide +kernel
theorem dX10_guest_127 : decode cX10_guest 127 = .ok (.aload_n 0, 1) := by decide +kernel
theorem dX10_guest_128 : decode cX10_guest 128 = .ok (.getfield 68, 3) := by decide +kernel
theorem dX10_guest_131 : decode cX10_guest 131 = .ok (.aload_n 0, 1) := by decide +kernel
theorem dX10_guest_132 : decode cX10_guest 132 = .ok (.getfield 26, 3) := by decide +kernel
theorem dX10_guest_135 : decode cX10_guest 135 = .ok (.iload_n 1, 1) := by decide +kernel
theorem dX10_guest_136 : decode cX10_guest 136 = .ok (.invokevirtual 152, 3) := by decide +kernel
theorem dX10_guest_139 : decode cX10_guest 139 = .ok (.ireturn, 1) := by decide +kernel
theorem dX10_guest_140 : decode cX10_guest 140 = .ok (.aload_n 0, 1) := by decide +kernel
theorem dX10_guest_141 : decode cX10_guest 141 = .ok (.getfield 47, 3) := by decide +kernel
theorem dX10_guest_144 : decode cX10_guest 144 = .ok (.iconst 1, 1) := by decide +kernel
theorem dX10_guest_145 : decode cX10_guest 145 = .ok (.aload_n 0, 1) := by decide +kernel
theorem dX10_guest_146 : decode cX10_guest 146 = .ok (.getfield 68, 3) := by decide +kernel
theorem dX10_guest_149 : decode cX10_guest 149 = .ok (.aload_n 0, 1) := by decide +kernel
theorem dX10_guest_150 : decode cX10_guest 150 = .ok (.getfield 26, 3) := by decide +kernel
theorem dX10_guest_153 : decode cX10_guest 153 = .ok (.iload_n 1, 1) := by decide +kernel
theorem dX10_guest_154 : decode cX10_guest 154 = .ok (.invokevirtual 152, 3) := by decide +kernel
theorem dX10_guest_157 : decode cX10_guest 157 = .ok (.ireturn, 1) := by decide +kernel
theorem dX10_guest_158 : decode cX10_guest 158 = .ok (.iconst (-1), 1) := by decide +kernel
theorem dX10_guest_159 : decode cX10_guest 159 = .ok (.ireturn, 1) := by decide +kernel
theorem dX10_at_0 : decode cX10_at 0 = .ok (.aload_n 0, 1) := by decide +kernel
theorem dX10_at_1 : decode cX10_at 1 = .ok (.iload_n 1, 1) := by decide +kernel
theorem dX10_at_2 : decode cX10_at 2 = .ok (.invokevirtual 107, 3) := by decide +kernel
theorem dX10_at_5 : decode cX10_at 5 = .ok (.ifCond .eq 20, 3) := by decide +kernel
theorem dX10_at_8 : decode cX10_at 8 = .ok (.iload_n 2, 1) := by decide +kernel
theorem dX10_at_9 : decode cX10_at 9 = .ok (.ifCond .lt 16, 3) := by decide +kernel
theorem dX10_at_12 : decode cX10_at 12 = .ok (.iload_n 2, 1) := by decide +kernel
theorem dX10_at_13 : decode cX10_at 13 = .ok (.aload_n 0, 1) := by decide +kernel
theorem dX10_at_14 : decode cX10_at 14 = .ok (.getfield 68, 3) := by decide +kernel
theorem dX10_at_17 : decode cX10_at 17 = .ok (.getfield 110, 3) := by decide +kernel
theorem dX10_at_20 : decode cX10_at 20 = .ok (.iload_n 1, 1) := by decide +kernel
theorem dX10_at_21 : decode cX10_at 21 = .ok (.iaload, 1) := by decide +kernel
theorem dX10_at_22 : decode cX10_at 22 = .ok (.if_icmp .lt 5, 3) := by decide +kernel
theorem dX10_at_25 : decode cX10_at 25 = .ok (.iconst (-1), 1) := by decide +kernel
theorem dX10_at_26 : decode cX10_at 26 = .ok (.ireturn, 1) := by decide +kernel
theorem dX10_at_27 : decode cX10_at 27 = .ok (.iconst 0, 1) := by decide +kernel
theorem dX10_at_28 : decode cX10_at 28 = .ok (.istore_n 3, 1) := by decide +kernel
theorem dX10_at_29 : decode cX10_at 29 = .ok (.iload_n 3, 1) := by decide +kernel
theorem dX10_at_30 : decode cX10_at 30 = .ok (.aload_n 0, 1) := by decide +kernel
theorem dX10_at_31 : decode cX10_at 31 = .ok (.getfield 68, 3) := by decide +kernel
theorem dX10_at_34 : decode cX10_at 34 = .ok (.getfield 155, 3) := by decide +kernel
theorem dX10_at_37 : decode cX10_at 37 = .ok (.if_icmp .ge 35, 3) := by decide +kernel
theorem dX10_at_40 : decode cX10_at 40 = .ok (.aload_n 0, 1) := by decide +kernel
theorem dX10_at_41 : decode cX10_at 41 = .ok (.getfield 26, 3) := by decide +kernel
theorem dX10_at_44 : decode cX10_at 44 = .ok (.iload_n 3, 1) := by decide +kernel
theorem dX10_at_45 : decode cX10_at 45 = .ok (.iload_n 1, 1) := by decide +kernel
theorem dX10_at_46 : decode cX10_at 46 = .ok (.invokevirtual 158, 3) := by decide +kernel
theorem dX10_at_49 : decode cX10_at 49 = .ok (.ifCond .eq 17, 3) := by decide +kernel
theorem dX10_at_52 : decode cX10_at 52 = .ok (.aload_n 0, 1) := by decide +kernel
theorem dX10_at_53 : decode cX10_at 53 = .ok (.getfield 68, 3) := by decide +kernel
theorem dX10_at_56 : decode cX10_at 56 = .ok (.iload_n 3, 1) := by decide +kernel
theorem dX10_at_57 : decode cX10_at 57 = .ok (.iload_n 2, 1) := by decide +kernel
theorem dX10_at_58 : decode cX10_at 58 = .ok (.invokevirtual 162, 3) := by decide +kernel
theorem dX10_at_61 : decode cX10_at 61 = .ok (.ifCond .eq 5, 3) := by decide +kernel
theorem dX10_at_64 : decode cX10_at 64 = .ok (.iload_n 3, 1) := by decide +kernel
theorem dX10_at_65 : decode cX10_at 65 = .ok (.ireturn, 1) := by decide +kernel
theorem dX10_at_66 : decode cX10_at 66 = .ok (.iinc 3 1, 3) := by decide +kernel
theorem dX10_at_69 : decode cX10_at 69 = .ok (.goto (-40), 3) := by decide +kernel
theorem dX10_at_72 : decode cX10_at 72 = .ok (.bipush (-2), 2) := by decide +kernel
theorem dX10_at_74 : decode cX10_at 74 = .ok (.ireturn, 1) := by decide +kernel
theorem dX10_letIn_0 : decode cX10_letIn 0 = .ok (.aload_n 0, 1) := by decide +kernel
theorem dX10_letIn_1 : decode cX10_letIn 1 = .ok (.iload_n 1, 1) := by decide +kernel
theorem dX10_letIn_2 : decode cX10_letIn 2 = .ok (.invokevirtual 130, 3) := by decide +kernel
theorem dX10_letIn_5 : decode cX10_letIn 5 = .ok (.ifCond .eq 11, 3) := by decide +kernel
theorem dX10_letIn_8 : decode cX10_letIn 8 = .ok (.aload_n 0, 1) := by decide +kernel
theorem dX10_letIn_9 : decode cX10_letIn 9 = .ok (.iload_n 2, 1) := by decide +kernel
theorem dX10_letIn_10 : decode cX10_letIn 10 = .ok (.invokevirtual 107, 3) := by decide +kernel
theorem dX10_letIn_13 : decode cX10_letIn 13 = .ok (.ifCond .ne 5, 3) := by decide +kernel
theorem dX10_letIn_16 : decode cX10_letIn 16 = .ok (.iconst 0, 1) := by decide +kernel
theorem dX10_letIn_17 : decode cX10_letIn 17 = .ok (.ireturn, 1) := by decide +kernel
theorem dX10_letIn_18 : decode cX10_letIn 18 = .ok (.aload_n 0, 1) := by decide +kernel
theorem dX10_letIn_19 : decode cX10_letIn 19 = .ok (.getfield 26, 3) := by decide +kernel
theorem dX10_letIn_22 : decode cX10_letIn 22 = .ok (.iload_n 1, 1) := by decide +kernel
theorem dX10_letIn_23 : decode cX10_letIn 23 = .ok (.invokevirtual 142, 3) := by decide +kernel
theorem dX10_letIn_26 : decode cX10_letIn 26 = .ok (.bipush (-2), 2) := by decide +kernel
theorem dX10_letIn_28 : decode cX10_letIn 28 = .ok (.if_icmp .ne 13, 3) := by decide +kernel
theorem dX10_letIn_31 : decode cX10_letIn 31 = .ok (.aload_n 0, 1) := by decide +kernel
theorem dX10_letIn_32 : decode cX10_letIn 32 = .ok (.iload_n 1, 1) := by decide +kernel
theorem dX10_letIn_33 : decode cX10_letIn 33 = .ok (.iload_n 2, 1) := by decide +kernel
theorem dX10_letIn_34 : decode cX10_letIn 34 = .ok (.iconst 0, 1) := by decide +kernel
theorem dX10_letIn_35 : decode cX10_letIn 35 = .ok (.invokevirtual 165, 3) := by decide +kernel
theorem dX10_letIn_38 : decode cX10_letIn 38 = .ok (.ifCond .ne 5, 3) := by decide +kernel
theorem dX10_letIn_41 : decode cX10_letIn 41 = .ok (.iconst 0, 1) := by decide +kernel
theorem dX10_letIn_42 : decode cX10_letIn 42 = .ok (.ireturn, 1) := by decide +kernel
theorem dX10_letIn_43 : decode cX10_letIn 43 = .ok (.aload_n 0, 1) := by decide +kernel
theorem dX10_letIn_44 : decode cX10_letIn 44 = .ok (.getfield 36, 3) := by decide +kernel
theorem dX10_letIn_47 : decode cX10_letIn 47 = .ok (.aload_n 0, 1) := by decide +kernel
theorem dX10_letIn_48 : decode cX10_letIn 48 = .ok (.getfield 26, 3) := by decide +kernel
theorem dX10_letIn_51 : decode cX10_letIn 51 = .ok (.invokevirtual 169, 3) := by decide +kernel
theorem dX10_letIn_54 : decode cX10_letIn 54 = .ok (.aload_n 0, 1) := by decide +kernel
theorem dX10_letIn_55 : decode cX10_letIn 55 = .ok (.getfield 26, 3) := by decide +kernel
theorem dX10_letIn_58 : decode cX10_letIn 58 = .ok (.getfield 123, 3) := by decide +kernel
theorem dX10_letIn_61 : decode cX10_letIn 61 = .ok (.iload_n 2, 1) := by decide +kernel
theorem dX10_letIn_62 : decode cX10_letIn 62 = .ok (.dup2, 1) := by decide +kernel
theorem dX10_letIn_63 : decode cX10_letIn 63 = .ok (.iaload, 1) := by decide +kernel
theorem dX10_letIn_64 : decode cX10_letIn 64 = .ok (.iconst 1, 1) := by decide +kernel
theorem dX10_letIn_65 : decode cX10_letIn 65 = .ok (.iload_n 1, 1) := by decide +kernel
theorem dX10_letIn_66 : decode cX10_letIn 66 = .ok (.ishl, 1) := by decide +kernel
theorem dX10_letIn_67 : decode cX10_letIn 67 = .ok (.ior, 1) := by decide +kernel
theorem dX10_letIn_68 : decode cX10_letIn 68 = .ok (.iastore, 1) := by decide +kernel
theorem dX10_letIn_69 : decode cX10_letIn 69 = .ok (.iconst 1, 1) := by decide +kernel
theorem dX10_letIn_70 : decode cX10_letIn 70 = .ok (.ireturn, 1) := by decide +kernel
theorem dX10_putOut_0 : decode cX10_putOut 0 = .ok (.aload_n 0, 1) := by decide +kernel
theorem dX10_putOut_1 : decode cX10_putOut 1 = .ok (.iload_n 1, 1) := by decide +kernel
theorem dX10_putOut_2 : decode cX10_putOut 2 = .ok (.invokevirtual 130, 3) := by decide +kernel
theorem dX10_putOut_5 : decode cX10_putOut 5 = .ok (.ifCond .eq 16, 3) := by decide +kernel
theorem dX10_putOut_8 : decode cX10_putOut 8 = .ok (.aload_n 0, 1) := by decide +kernel
theorem dX10_putOut_9 : decode cX10_putOut 9 = .ok (.getfield 26, 3) := by decide +kernel
theorem dX10_putOut_12 : decode cX10_putOut 12 = .ok (.iload_n 1, 1) := by decide +kernel
theorem dX10_putOut_13 : decode cX10_putOut 13 = .ok (.invokevirtual 142, 3) := by decide +kernel
theorem dX10_putOut_16 : decode cX10_putOut 16 = .ok (.bipush (-2), 2) := by decide +kernel
theorem dX10_putOut_18 : decode cX10_putOut 18 = .ok (.if_icmp .ne 5, 3) := by decide +kernel
theorem dX10_putOut_21 : decode cX10_putOut 21 = .ok (.iconst 0, 1) := by decide +kernel
theorem dX10_putOut_22 : decode cX10_putOut 22 = .ok (.ireturn, 1) := by decide +kernel
theorem dX10_putOut_23 : decode cX10_putOut 23 = .ok (.aload_n 0, 1) := by decide +kernel
theorem dX10_putOut_24 : decode cX10_putOut 24 = .ok (.getfield 36, 3) := by decide +kernel
theorem dX10_putOut_27 : decode cX10_putOut 27 = .ok (.aload_n 0, 1) := by decide +kernel
theorem dX10_putOut_28 : decode cX10_putOut 28 = .ok (.getfield 26, 3) := by decide +kernel
theorem dX10_putOut_31 : decode cX10_putOut 31 = .ok (.invokevirtual 169, 3) := by decide +kernel
theorem dX10_putOut_34 : decode cX10_putOut 34 = .ok (.aload_n 0, 1) := by decide +kernel
theorem dX10_putOut_35 : decode cX10_putOut 35 = .ok (.getfield 26, 3) := by decide +kernel
theorem dX10_putOut_38 : decode cX10_putOut 38 = .ok (.iload_n 1, 1) := by decide +kernel
theorem dX10_putOut_39 : decode cX10_putOut 39 = .ok (.invokevirtual 173, 3) := by decide +kernel
theorem dX10_putOut_42 : decode cX10_putOut 42 = .ok (.iconst 1, 1) := by decide +kernel
theorem dX10_putOut_43 : decode cX10_putOut 43 = .ok (.ireturn, 1) := by decide +kernel
theorem dX10_sell_0 : decode cX10_sell 0 = .ok (.aload_n 0, 1) := by decide +kernel
theorem dX10_sell_1 : decode cX10_sell 1 = .ok (.iload_n 1, 1) := by decide +kernel
theorem dX10_sell_2 : decode cX10_sell 2 = .ok (.invokevirtual 107, 3) := by decide +kernel
theorem dX10_sell_5 : decode cX10_sell 5 = .ok (.ifCond .eq 26, 3) := by decide +kernel
theorem dX10_sell_8 : decode cX10_sell 8 = .ok (.aload_n 0, 1) := by decide +kernel
theorem dX10_sell_9 : decode cX10_sell 9 = .ok (.getfield 26, 3) := by decide +kernel
theorem dX10_sell_12 : decode cX10_sell 12 = .ok (.getfield 123, 3) := by decide +kernel
theorem dX10_sell_15 : decode cX10_sell 15 = .ok (.iload_n 1, 1) := by decide +kernel
theorem dX10_sell_16 : decode cX10_sell 16 = .ok (.iaload, 1) := by decide +kernel
theorem dX10_sell_17 : decode cX10_sell 17 = .ok (.ifCond .ne 14, 3) := by decide +kernel
theorem dX10_sell_20 : decode cX10_sell 20 = .ok (.aload_n 0, 1) := by decide +kernel
theorem dX10_sell_21 : decode cX10_sell 21 = .ok (.getfield 26, 3) := by decide +kernel
theorem dX10_sell_24 : decode cX10_sell 24 = .ok (.iload_n 1, 1) := by decide +kernel
theorem dX10_sell_25 : decode cX10_sell 25 = .ok (.invokevirtual 120, 3) := by decide +kernel
theorem dX10_sell_28 : decode cX10_sell 28 = .ok (.ifCond .eq 5, 3) := by decide +kernel
theorem dX10_sell_31 : decode cX10_sell 31 = .ok (.iconst (-1), 1) := by decide +kernel
theorem dX10_sell_32 : decode cX10_sell 32 = .ok (.ireturn, 1) := by decide +kernel
theorem dX10_sell_33 : decode cX10_sell 33 = .ok (.aload_n 0, 1) := by decide +kernel
theorem dX10_sell_34 : decode cX10_sell 34 = .ok (.getfield 36, 3) := by decide +kernel
theorem dX10_sell_37 : decode cX10_sell 37 = .ok (.aload_n 0, 1) := by decide +kernel
theorem dX10_sell_38 : decode cX10_sell 38 = .ok (.getfield 26, 3) := by decide +kernel
theorem dX10_sell_41 : decode cX10_sell 41 = .ok (.invokevirtual 169, 3) := by decide +kernel
theorem dX10_sell_44 : decode cX10_sell 44 = .ok (.aload_n 0, 1) := by decide +kernel
theorem dX10_sell_45 : decode cX10_sell 45 = .ok (.getfield 47, 3) := by decide +kernel
theorem dX10_sell_48 : decode cX10_sell 48 = .ok (.iconst 3, 1) := by decide +kernel
theorem dX10_sell_49 : decode cX10_sell 49 = .ok (.aload_n 0, 1) := by decide +kernel
theorem dX10_sell_50 : decode cX10_sell 50 = .ok (.getfield 68, 3) := by decide +kernel
theorem dX10_sell_53 : decode cX10_sell 53 = .ok (.aload_n 0, 1) := by decide +kernel
theorem dX10_sell_54 : decode cX10_sell 54 = .ok (.getfield 26, 3) := by decide +kernel
theorem dX10_sell_57 : decode cX10_sell 57 = .ok (.iload_n 1, 1) := by decide +kernel
theorem dX10_sell_58 : decode cX10_sell 58 = .ok (.invokevirtual 126, 3) := by decide +kernel
theorem dX10_sell_61 : decode cX10_sell 61 = .ok (.istore_n 2, 1) := by decide +kernel
theorem dX10_sell_62 : decode cX10_sell 62 = .ok (.aload_n 0, 1) := by decide +kernel
theorem dX10_sell_63 : decode cX10_sell 63 = .ok (.getfield 26, 3) := by decide +kernel
theorem dX10_sell_66 : decode cX10_sell 66 = .ok (.dup, 1) := by decide +kernel
theorem dX10_sell_67 : decode cX10_sell 67 = .ok (.getfield 176, 3) := by decide +kernel
theorem dX10_sell_70 : decode cX10_sell 70 = .ok (.iconst 1, 1) := by decide +kernel
theorem dX10_sell_71 : decode cX10_sell 71 = .ok (.iload_n 1, 1) := by decide +kernel
theorem dX10_sell_72 : decode cX10_sell 72 = .ok (.ishl, 1) := by decide +kernel
theorem dX10_sell_73 : decode cX10_sell 73 = .ok (.ior, 1) := by decide +kernel
theorem dX10_sell_74 : decode cX10_sell 74 = .ok (.putfield 176, 3) := by decide +kernel
theorem dX10_sell_77 : decode cX10_sell 77 = .ok (.aload_n 0, 1) := by decide +kernel
theorem dX10_sell_78 : decode cX10_sell 78 = .ok (.getfield 26, 3) := by decide +kernel
theorem dX10_sell_81 : decode cX10_sell 81 = .ok (.dup, 1) := by decide +kernel
theorem dX10_sell_82 : decode cX10_sell 82 = .ok (.getfield 179, 3) := by decide +kernel
theorem dX10_sell_85 : decode cX10_sell 85 = .ok (.iload_n 2, 1) := by decide +kernel
theorem dX10_sell_86 : decode cX10_sell 86 = .ok (.iadd, 1) := by decide +kernel
theorem dX10_sell_87 : decode cX10_sell 87 = .ok (.putfield 179, 3) := by decide +kernel
theorem dX10_sell_90 : decode cX10_sell 90 = .ok (.iload_n 2, 1) := by decide +kernel
theorem dX10_sell_91 : decode cX10_sell 91 = .ok (.ireturn, 1) := by decide +kernel
theorem dX10_air_0 : decode cX10_air 0 = .ok (.aload_n 0, 1) := by decide +kernel
theorem dX10_air_1 : decode cX10_air 1 = .ok (.iload_n 1, 1) := by decide +kernel
theorem dX10_air_2 : decode cX10_air 2 = .ok (.invokevirtual 107, 3) := by decide +kernel
theorem dX10_air_5 : decode cX10_air 5 = .ok (.ifCond .eq 38, 3) := by decide +kernel
theorem dX10_air_8 : decode cX10_air 8 = .ok (.aload_n 0, 1) := by decide +kernel
theorem dX10_air_9 : decode cX10_air 9 = .ok (.getfield 26, 3) := by decide +kernel
theorem dX10_air_12 : decode cX10_air 12 = .ok (.getfield 123, 3) := by decide +kernel
theorem dX10_air_15 : decode cX10_air 15 = .ok (.iload_n 1, 1) := by decide +kernel
theorem dX10_air_16 : decode cX10_air 16 = .ok (.iaload, 1) := by decide +kernel
theorem dX10_air_17 : decode cX10_air 17 = .ok (.ifCond .ne 26, 3) := by decide +kernel
theorem dX10_air_20 : decode cX10_air 20 = .ok (.aload_n 0, 1) := by decide +kernel
theorem dX10_air_21 : decode cX10_air 21 = .ok (.getfield 26, 3) := by decide +kernel
theorem dX10_air_24 : decode cX10_air 24 = .ok (.iload_n 1, 1) := by decide +kernel
theorem dX10_air_25 : decode cX10_air 25 = .ok (.invokevirtual 120, 3) := by decide +kernel
theorem dX10_air_28 : decode cX10_air 28 = .ok (.ifCond .ne 15, 3) := by decide +kernel
theorem dX10_air_31 : decode cX10_air 31 = .ok (.aload_n 0, 1) := by decide +kernel
theorem dX10_air_32 : decode cX10_air 32 = .ok (.getfield 26, 3) := by decide +kernel
theorem dX10_air_35 : decode cX10_air 35 = .ok (.getfield 117, 3) := by decide +kernel
theorem dX10_air_38 : decode cX10_air 38 = .ok (.iload_n 1, 1) := by decide +kernel
theorem dX10_air_39 : decode cX10_air 39 = .ok (.iaload, 1) := by decide +kernel
theorem dX10_air_40 : decode cX10_air 40 = .ok (.ifCond .ne 5, 3) := by decide +kernel
theorem dX10_air_43 : decode cX10_air 43 = .ok (.iconst 0, 1) := by decide +kernel
theorem dX10_air_44 : decode cX10_air 44 = .ok (.ireturn, 1) := by decide +kernel
theorem dX10_air_45 : decode cX10_air 45 = .ok (.aload_n 0, 1) := by decide +kernel
theorem dX10_air_46 : decode cX10_air 46 = .ok (.getfield 36, 3) := by decide +kernel
theorem dX10_air_49 : decode cX10_air 49 = .ok (.aload_n 0, 1) := by decide +kernel
theorem dX10_air_50 : decode cX10_air 50 = .ok (.getfield 26, 3) := by decide +kernel
theorem dX10_air_53 : decode cX10_air 53 = .ok (.invokevirtual 169, 3) := by decide +kernel
theorem dX10_air_56 : decode cX10_air 56 = .ok (.aload_n 0, 1) := by decide +kernel
theorem dX10_air_57 : decode cX10_air 57 = .ok (.getfield 26, 3) := by decide +kernel
theorem dX10_air_60 : decode cX10_air 60 = .ok (.getfield 117, 3) := by decide +kernel
theorem dX10_air_63 : decode cX10_air 63 = .ok (.iload_n 1, 1) := by decide +kernel
theorem dX10_air_64 : decode cX10_air 64 = .ok (.iconst 0, 1) := by decide +kernel
theorem dX10_air_65 : decode cX10_air 65 = .ok (.iastore, 1) := by decide +kernel
theorem dX10_air_66 : decode cX10_air 66 = .ok (.aload_n 0, 1) := by decide +kernel
theorem dX10_air_67 : decode cX10_air 67 = .ok (.getfield 26, 3) := by decide +kernel
theorem dX10_air_70 : decode cX10_air 70 = .ok (.getfield 179, 3) := by decide +kernel
theorem dX10_air_73 : decode cX10_air 73 = .ok (.ifCond .le 16, 3) := by decide +kernel
theorem dX10_air_76 : decode cX10_air 76 = .ok (.aload_n 0, 1) := by decide +kernel
theorem dX10_air_77 : decode cX10_air 77 = .ok (.getfield 26, 3) := by decide +kernel
theorem dX10_air_80 : decode cX10_air 80 = .ok (.dup, 1) := by decide +kernel
theorem dX10_air_81 : decode cX10_air 81 = .ok (.getfield 179, 3) := by decide +kernel
theorem dX10_air_84 : decode cX10_air 84 = .ok (.iconst 1, 1) := by decide +kernel
theorem dX10_air_85 : decode cX10_air 85 = .ok (.isub, 1) := by decide +kernel
theorem dX10_air_86 : decode cX10_air 86 = .ok (.putfield 179, 3) := by decide +kernel
theorem dX10_air_89 : decode cX10_air 89 = .ok (.iconst 1, 1) := by decide +kernel
theorem dX10_air_90 : decode cX10_air 90 = .ok (.ireturn, 1) := by decide +kernel
theorem dX10_weeks_0 : decode cX10_weeks 0 = .ok (.aload_n 0, 1) := by decide +kernel
theorem dX10_weeks_1 : decode cX10_weeks 1 = .ok (.iload_n 1, 1) := by decide +kernel
theorem dX10_weeks_2 : decode cX10_weeks 2 = .ok (.invokevirtual 182, 3) := by decide +kernel
theorem dX10_weeks_5 : decode cX10_weeks 5 = .ok (.ifCond .ne 5, 3) := by decide +kernel
theorem dX10_weeks_8 : decode cX10_weeks 8 = .ok (.iconst (-1), 1) := by decide +kernel
theorem dX10_weeks_9 : decode cX10_weeks 9 = .ok (.ireturn, 1) := by decide +kernel
theorem dX10_weeks_10 : decode cX10_weeks 10 = .ok (.iload_n 1, 1) := by decide +kernel
theorem dX10_weeks_11 : decode cX10_weeks 11 = .ok (.ifCond .le 37, 3) := by decide +kernel
theorem dX10_weeks_14 : decode cX10_weeks 14 = .ok (.aload_n 0, 1) := by decide +kernel
theorem dX10_weeks_15 : decode cX10_weeks 15 = .ok (.getfield 36, 3) := by decide +kernel
theorem dX10_weeks_18 : decode cX10_weeks 18 = .ok (.aload_n 0, 1) := by decide +kernel
theorem dX10_weeks_19 : decode cX10_weeks 19 = .ok (.getfield 26, 3) := by decide +kernel
theorem dX10_weeks_22 : decode cX10_weeks 22 = .ok (.invokevirtual 169, 3) := by decide +kernel
theorem dX10_weeks_25 : decode cX10_weeks 25 = .ok (.aload_n 0, 1) := by decide +kernel
theorem dX10_weeks_26 : decode cX10_weeks 26 = .ok (.getfield 47, 3) := by decide +kernel
theorem dX10_weeks_29 : decode cX10_weeks 29 = .ok (.aload_n 0, 1) := by decide +kernel
theorem dX10_weeks_30 : decode cX10_weeks 30 = .ok (.getfield 68, 3) := by decide +kernel
theorem dX10_weeks_33 : decode cX10_weeks 33 = .ok (.aload_n 0, 1) := by decide +kernel
theorem dX10_weeks_34 : decode cX10_weeks 34 = .ok (.getfield 26, 3) := by decide +kernel
theorem dX10_weeks_37 : decode cX10_weeks 37 = .ok (.iload_n 1, 1) := by decide +kernel
theorem dX10_weeks_38 : decode cX10_weeks 38 = .ok (.aload_n 0, 1) := by decide +kernel
theorem dX10_weeks_39 : decode cX10_weeks 39 = .ok (.getfield 68, 3) := by decide +kernel
theorem dX10_weeks_42 : decode cX10_weeks 42 = .ok (.getfield 185, 3) := by decide +kernel
theorem dX10_weeks_45 : decode cX10_weeks 45 = .ok (.invokevirtual 188, 3) := by decide +kernel
theorem dX10_weeks_48 : decode cX10_weeks 48 = .ok (.aload_n 0, 1) := by decide +kernel
theorem dX10_weeks_49 : decode cX10_weeks 49 = .ok (.getfield 26, 3) := by decide +kernel
theorem dX10_weeks_52 : decode cX10_weeks 52 = .ok (.getfield 192, 3) := by decide +kernel
theorem dX10_weeks_55 : decode cX10_weeks 55 = .ok (.ireturn, 1) := by decide +kernel
theorem dX10_undo_0 : decode cX10_undo 0 = .ok (.aload_n 0, 1) := by decide +kernel
theorem dX10_undo_1 : decode cX10_undo 1 = .ok (.getfield 36, 3) := by decide +kernel
theorem dX10_undo_4 : decode cX10_undo 4 = .ok (.aload_n 0, 1) := by decide +kernel
theorem dX10_undo_5 : decode cX10_undo 5 = .ok (.getfield 26, 3) := by decide +kernel
theorem dX10_undo_8 : decode cX10_undo 8 = .ok (.invokevirtual 195, 3) := by decide +kernel
theorem dX10_undo_11 : decode cX10_undo 11 = .ok (.ireturn, 1) := by decide +kernel
theorem dX10_alone_0 : decode cX10_alone 0 = .ok (.aload_n 0, 1) := by decide +kernel
theorem dX10_alone_1 : decode cX10_alone 1 = .ok (.iload_n 1, 1) := by decide +kernel
theorem dX10_alone_2 : decode cX10_alone 2 = .ok (.invokevirtual 107, 3) := by decide +kernel
theorem dX10_alone_5 : decode cX10_alone 5 = .ok (.ifCond .eq 11, 3) := by decide +kernel
theorem dX10_alone_8 : decode cX10_alone 8 = .ok (.aload_n 0, 1) := by decide +kernel
theorem dX10_alone_9 : decode cX10_alone 9 = .ok (.iload_n 2, 1) := by decide +kernel
theorem dX10_alone_10 : decode cX10_alone 10 = .ok (.invokevirtual 199, 3) := by decide +kernel
theorem dX10_alone_13 : decode cX10_alone 13 = .ok (.ifCond .ne 5, 3) := by decide +kernel
theorem dX10_alone_16 : decode cX10_alone 16 = .ok (.iconst (-1), 1) := by decide +kernel
theorem dX10_alone_17 : decode cX10_alone 17 = .ok (.ireturn, 1) := by decide +kernel
theorem dX10_alone_18 : decode cX10_alone 18 = .ok (.aload_n 0, 1) := by decide +kernel
theorem dX10_alone_19 : decode cX10_alone 19 = .ok (.getfield 54, 3) := by decide +kernel
theorem dX10_alone_22 : decode cX10_alone 22 = .ok (.aload_n 0, 1) := by decide +kernel
theorem dX10_alone_23 : decode cX10_alone 23 = .ok (.getfield 47, 3) := by decide +kernel
theorem dX10_alone_26 : decode cX10_alone 26 = .ok (.aload_n 0, 1) := by decide +kernel
theorem dX10_alone_27 : decode cX10_alone 27 = .ok (.getfield 68, 3) := by decide +kernel
theorem dX10_alone_30 : decode cX10_alone 30 = .ok (.aload_n 0, 1) := by decide +kernel
theorem dX10_alone_31 : decode cX10_alone 31 = .ok (.getfield 26, 3) := by decide +kernel
theorem dX10_alone_34 : decode cX10_alone 34 = .ok (.iload_n 1, 1) := by decide +kernel
theorem dX10_alone_35 : decode cX10_alone 35 = .ok (.invokevirtual 202, 3) := by decide +kernel
theorem dX10_alone_38 : decode cX10_alone 38 = .ok (.aload_n 0, 1) := by decide +kernel
theorem dX10_alone_39 : decode cX10_alone 39 = .ok (.getfield 54, 3) := by decide +kernel
theorem dX10_alone_42 : decode cX10_alone 42 = .ok (.aload_n 0, 1) := by decide +kernel
theorem dX10_alone_43 : decode cX10_alone 43 = .ok (.getfield 68, 3) := by decide +kernel
theorem dX10_alone_46 : decode cX10_alone 46 = .ok (.iload_n 1, 1) := by decide +kernel
theorem dX10_alone_47 : decode cX10_alone 47 = .ok (.invokevirtual 206, 3) := by decide +kernel
theorem dX10_alone_50 : decode cX10_alone 50 = .ok (.istore_n 3, 1) := by decide +kernel
theorem dX10_alone_51 : decode cX10_alone 51 = .ok (.iload_n 2, 1) := by decide +kernel
theorem dX10_alone_52 : decode cX10_alone 52 = .ok (.ifCond .ne 17, 3) := by decide +kernel
theorem dX10_alone_55 : decode cX10_alone 55 = .ok (.aload_n 0, 1) := by decide +kernel
theorem dX10_alone_56 : decode cX10_alone 56 = .ok (.getfield 54, 3) := by decide +kernel
theorem dX10_alone_59 : decode cX10_alone 59 = .ok (.getfield 210, 3) := by decide +kernel
theorem dX10_alone_62 : decode cX10_alone 62 = .ok (.iload_n 1, 1) := by decide +kernel
theorem dX10_alone_63 : decode cX10_alone 63 = .ok (.aaload, 1) := by decide +kernel
theorem dX10_alone_64 : decode cX10_alone 64 = .ok (.iload_n 3, 1) := by decide +kernel
theorem dX10_alone_65 : decode cX10_alone 65 = .ok (.iaload, 1) := by decide +kernel
theorem dX10_alone_66 : decode cX10_alone 66 = .ok (.goto 4, 3) := by decide +kernel
theorem dX10_alone_69 : decode cX10_alone 69 = .ok (.iload_n 3, 1) := by decide +kernel
theorem dX10_alone_70 : decode cX10_alone 70 = .ok (.ireturn, 1) := by decide +kernel
theorem dX10_letting_0 : decode cX10_letting 0 = .ok (.iload_n 1, 1) := by decide +kernel
theorem dX10_letting_1 : decode cX10_letting 1 = .ok (.iconst (-1), 1) := by decide +kernel
theorem dX10_letting_2 : decode cX10_letting 2 = .ok (.if_icmp .eq 13, 3) := by decide +kernel
theorem dX10_letting_5 : decode cX10_letting 5 = .ok (.aload_n 0, 1) := by decide +kernel
theorem dX10_letting_6 : decode cX10_letting 6 = .ok (.iload_n 1, 1) := by decide +kernel
theorem dX10_letting_7 : decode cX10_letting 7 = .ok (.invokevirtual 107, 3) := by decide +kernel
theorem dX10_letting_10 : decode cX10_letting 10 = .ok (.ifCond .ne 5, 3) := by decide +kernel
theorem dX10_letting_13 : decode cX10_letting 13 = .ok (.iconst (-1), 1) := by decide +kernel
theorem dX10_letting_14 : decode cX10_letting 14 = .ok (.ireturn, 1) := by decide +kernel
theorem dX10_letting_15 : decode cX10_letting 15 = .ok (.iconst 0, 1) := by decide +kernel
theorem dX10_letting_16 : decode cX10_letting 16 = .ok (.istore_n 2, 1) := by decide +kernel
theorem dX10_letting_17 : decode cX10_letting 17 = .ok (.iload_n 2, 1) := by decide +kernel
theorem dX10_letting_18 : decode cX10_letting 18 = .ok (.aload_n 0, 1) := by decide +kernel
theorem dX10_letting_19 : decode cX10_letting 19 = .ok (.getfield 68, 3) := by decide +kernel
theorem dX10_letting_22 : decode cX10_letting 22 = .ok (.getfield 214, 3) := by decide +kernel
theorem dX10_letting_25 : decode cX10_letting 25 = .ok (.if_icmp .ge 29, 3) := by decide +kernel
theorem dX10_letting_28 : decode cX10_letting 28 = .ok (.aload_n 0, 1) := by decide +kernel
theorem dX10_letting_29 : decode cX10_letting 29 = .ok (.getfield 54, 3) := by decide +kernel
theorem dX10_letting_32 : decode cX10_letting 32 = .ok (.aload_n 0, 1) := by decide +kernel
theorem dX10_letting_33 : decode cX10_letting 33 = .ok (.getfield 47, 3) := by decide +kernel
theorem dX10_letting_36 : decode cX10_letting 36 = .ok (.aload_n 0, 1) := by decide +kernel
theorem dX10_letting_37 : decode cX10_letting 37 = .ok (.getfield 68, 3) := by decide +kernel
theorem dX10_letting_40 : decode cX10_letting 40 = .ok (.aload_n 0, 1) := by decide +kernel
theorem dX10_letting_41 : decode cX10_letting 41 = .ok (.getfield 26, 3) := by decide +kernel
theorem dX10_letting_44 : decode cX10_letting 44 = .ok (.iload_n 2, 1) := by decide +kernel
theorem dX10_letting_45 : decode cX10_letting 45 = .ok (.invokevirtual 202, 3) := by decide +kernel
theorem dX10_letting_48 : decode cX10_letting 48 = .ok (.iinc 2 1, 3) := by decide +kernel
theorem dX10_letting_51 : decode cX10_letting 51 = .ok (.goto (-34), 3) := by decide +kernel
theorem dX10_letting_54 : decode cX10_letting 54 = .ok (.aload_n 0, 1) := by decide +kernel
theorem dX10_letting_55 : decode cX10_letting 55 = .ok (.getfield 54, 3) := by decide +kernel
theorem dX10_letting_58 : decode cX10_letting 58 = .ok (.aload_n 0, 1) := by decide +kernel
theorem dX10_letting_59 : decode cX10_letting 59 = .ok (.getfield 68, 3) := by decide +kernel
theorem dX10_letting_62 : decode cX10_letting 62 = .ok (.invokevirtual 217, 3) := by decide +kernel
theorem dX10_letting_65 : decode cX10_letting 65 = .ok (.aload_n 0, 1) := by decide +kernel
theorem dX10_letting_66 : decode cX10_letting 66 = .ok (.getfield 26, 3) := by decide +kernel
theorem dX10_letting_69 : decode cX10_letting 69 = .ok (.aload_n 0, 1) := by decide +kernel
theorem dX10_letting_70 : decode cX10_letting 70 = .ok (.getfield 68, 3) := by decide +kernel
theorem dX10_letting_73 : decode cX10_letting 73 = .ok (.invokevirtual 221, 3) := by decide +kernel
theorem dX10_letting_76 : decode cX10_letting 76 = .ok (.istore_n 2, 1) := by decide +kernel
theorem dX10_letting_77 : decode cX10_letting 77 = .ok (.iload_n 1, 1) := by decide +kernel
theorem dX10_letting_78 : decode cX10_letting 78 = .ok (.iconst (-1), 1) := by decide +kernel
theorem dX10_letting_79 : decode cX10_letting 79 = .ok (.if_icmp .ne 23, 3) := by decide +kernel
theorem dX10_letting_82 : decode cX10_letting 82 = .ok (.aload_n 0, 1) := by decide +kernel
theorem dX10_letting_83 : decode cX10_letting 83 = .ok (.getfield 54, 3) := by decide +kernel
theorem dX10_letting_86 : decode cX10_letting 86 = .ok (.getfield 225, 3) := by decide +kernel
theorem dX10_letting_89 : decode cX10_letting 89 = .ok (.aload_n 0, 1) := by decide +kernel
theorem dX10_letting_90 : decode cX10_letting 90 = .ok (.getfield 68, 3) := by decide +kernel
theorem dX10_letting_93 : decode cX10_letting 93 = .ok (.getfield 214, 3) := by decide +kernel
theorem dX10_letting_96 : decode cX10_letting 96 = .ok (.aaload, 1) := by decide +kernel
theorem dX10_letting_97 : decode cX10_letting 97 = .ok (.iload_n 2, 1) := by decide +kernel
theorem dX10_letting_98 : decode cX10_letting 98 = .ok (.iaload, 1) := by decide +kernel
theorem dX10_letting_99 : decode cX10_letting 99 = .ok (.goto 16, 3) := by decide +kernel
theorem dX10_letting_102 : decode cX10_letting 102 = .ok (.aload_n 0, 1) := by decide +kernel
theorem dX10_letting_103 : decode cX10_letting 103 = .ok (.getfield 54, 3) := by decide +kernel
theorem dX10_letting_106 : decode cX10_letting 106 = .ok (.aload_n 0, 1) := by decide +kernel
theorem dX10_letting_107 : decode cX10_letting 107 = .ok (.getfield 68, 3) := by decide +kernel
theorem dX10_letting_110 : decode cX10_letting 110 = .ok (.iload_n 2, 1) := by decide +kernel
theorem dX10_letting_111 : decode cX10_letting 111 = .ok (.iload_n 1, 1) := by decide +kernel
theorem dX10_letting_112 : decode cX10_letting 112 = .ok (.invokevirtual 228, 3) := by decide +kernel
theorem dX10_letting_115 : decode cX10_letting 115 = .ok (.ireturn, 1) := by decide +kernel
theorem dX10_fewest_0 : decode cX10_fewest 0 = .ok (.aload_n 0, 1) := by decide +kernel
theorem dX10_fewest_1 : decode cX10_fewest 1 = .ok (.iload_n 1, 1) := by decide +kernel
theorem dX10_fewest_2 : decode cX10_fewest 2 = .ok (.invokevirtual 199, 3) := by decide +kernel
theorem dX10_fewest_5 : decode cX10_fewest 5 = .ok (.ifCond .ne 5, 3) := by decide +kernel
theorem dX10_fewest_8 : decode cX10_fewest 8 = .ok (.iconst (-1), 1) := by decide +kernel
theorem dX10_fewest_9 : decode cX10_fewest 9 = .ok (.ireturn, 1) := by decide +kernel
theorem dX10_fewest_10 : decode cX10_fewest 10 = .ok (.aload_n 0, 1) := by decide +kernel
theorem dX10_fewest_11 : decode cX10_fewest 11 = .ok (.getfield 54, 3) := by decide +kernel
theorem dX10_fewest_14 : decode cX10_fewest 14 = .ok (.aload_n 0, 1) := by decide +kernel
theorem dX10_fewest_15 : decode cX10_fewest 15 = .ok (.getfield 68, 3) := by decide +kernel
theorem dX10_fewest_18 : decode cX10_fewest 18 = .ok (.aload_n 0, 1) := by decide +kernel
theorem dX10_fewest_19 : decode cX10_fewest 19 = .ok (.getfield 26, 3) := by decide +kernel
theorem dX10_fewest_22 : decode cX10_fewest 22 = .ok (.invokevirtual 232, 3) := by decide +kernel
theorem dX10_fewest_25 : decode cX10_fewest 25 = .ok (.istore_n 2, 1) := by decide +kernel
theorem dX10_fewest_26 : decode cX10_fewest 26 = .ok (.iload_n 2, 1) := by decide +kernel
theorem dX10_fewest_27 : decode cX10_fewest 27 = .ok (.ldc 236, 2) := by decide +kernel
theorem dX10_fewest_29 : decode cX10_fewest 29 = .ok (.if_icmp .lt 6, 3) := by decide +kernel
theorem dX10_fewest_32 : decode cX10_fewest 32 = .ok (.bipush (-2), 2) := by decide +kernel
theorem dX10_fewest_34 : decode cX10_fewest 34 = .ok (.ireturn, 1) := by decide +kernel
theorem dX10_fewest_35 : decode cX10_fewest 35 = .ok (.iload_n 1, 1) := by decide +kernel
theorem dX10_fewest_36 : decode cX10_fewest 36 = .ok (.ifCond .ne 10, 3) := by decide +kernel
theorem dX10_fewest_39 : decode cX10_fewest 39 = .ok (.iload_n 2, 1) := by decide +kernel
theorem dX10_fewest_40 : decode cX10_fewest 40 = .ok (.bipush 16, 2) := by decide +kernel
theorem dX10_fewest_42 : decode cX10_fewest 42 = .ok (.idiv, 1) := by decide +kernel
theorem dX10_fewest_43 : decode cX10_fewest 43 = .ok (.goto 7, 3) := by decide +kernel
theorem dX10_fewest_46 : decode cX10_fewest 46 = .ok (.iload_n 2, 1) := by decide +kernel
theorem dX10_fewest_47 : decode cX10_fewest 47 = .ok (.bipush 16, 2) := by decide +kernel
theorem dX10_fewest_49 : decode cX10_fewest 49 = .ok (.irem, 1) := by decide +kernel
theorem dX10_fewest_50 : decode cX10_fewest 50 = .ok (.ireturn, 1) := by decide +kernel
theorem dX10_colours_0 : decode cX10_colours 0 = .ok (.aload_n 0, 1) := by decide +kernel
theorem dX10_colours_1 : decode cX10_colours 1 = .ok (.getfield 54, 3) := by decide +kernel
theorem dX10_colours_4 : decode cX10_colours 4 = .ok (.aload_n 0, 1) := by decide +kernel
theorem dX10_colours_5 : decode cX10_colours 5 = .ok (.getfield 68, 3) := by decide +kernel
theorem dX10_colours_8 : decode cX10_colours 8 = .ok (.aload_n 0, 1) := by decide +kernel
theorem dX10_colours_9 : decode cX10_colours 9 = .ok (.getfield 26, 3) := by decide +kernel
theorem dX10_colours_12 : decode cX10_colours 12 = .ok (.aload_n 0, 1) := by decide +kernel
theorem dX10_colours_13 : decode cX10_colours 13 = .ok (.getfield 68, 3) := by decide +kernel
theorem dX10_colours_16 : decode cX10_colours 16 = .ok (.invokevirtual 221, 3) := by decide +kernel
theorem dX10_colours_19 : decode cX10_colours 19 = .ok (.invokevirtual 237, 3) := by decide +kernel
theorem dX10_colours_22 : decode cX10_colours 22 = .ok (.ireturn, 1) := by decide +kernel
theorem dX10_tangle_0 : decode cX10_tangle 0 = .ok (.aload_n 0, 1) := by decide +kernel
theorem dX10_tangle_1 : decode cX10_tangle 1 = .ok (.iload_n 1, 1) := by decide +kernel
theorem dX10_tangle_2 : decode cX10_tangle 2 = .ok (.invokevirtual 199, 3) := by decide +kernel
theorem dX10_tangle_5 : decode cX10_tangle 5 = .ok (.ifCond .ne 5, 3) := by decide +kernel
theorem dX10_tangle_8 : decode cX10_tangle 8 = .ok (.iconst (-1), 1) := by decide +kernel
theorem dX10_tangle_9 : decode cX10_tangle 9 = .ok (.ireturn, 1) := by decide +kernel
theorem dX10_tangle_10 : decode cX10_tangle 10 = .ok (.aload_n 0, 1) := by decide +kernel
theorem dX10_tangle_11 : decode cX10_tangle 11 = .ok (.getfield 54, 3) := by decide +kernel
theorem dX10_tangle_14 : decode cX10_tangle 14 = .ok (.aload_n 0, 1) := by decide +kernel
theorem dX10_tangle_15 : decode cX10_tangle 15 = .ok (.getfield 68, 3) := by decide +kernel
theorem dX10_tangle_18 : decode cX10_tangle 18 = .ok (.aload_n 0, 1) := by decide +kernel
theorem dX10_tangle_19 : decode cX10_tangle 19 = .ok (.getfield 26, 3) := by decide +kernel
theorem dX10_tangle_22 : decode cX10_tangle 22 = .ok (.aload_n 0, 1) := by decide +kernel
theorem dX10_tangle_23 : decode cX10_tangle 23 = .ok (.getfield 68, 3) := by decide +kernel
theorem dX10_tangle_26 : decode cX10_tangle 26 = .ok (.invokevirtual 221, 3) := by decide +kernel
theorem dX10_tangle_29 : decode cX10_tangle 29 = .ok (.invokevirtual 240, 3) := by decide +kernel
theorem dX10_tangle_32 : decode cX10_tangle 32 = .ok (.istore_n 2, 1) := by decide +kernel
theorem dX10_tangle_33 : decode cX10_tangle 33 = .ok (.iload_n 1, 1) := by decide +kernel
theorem dX10_tangle_34 : decode cX10_tangle 34 = .ok (.ifCond .ne 10, 3) := by decide +kernel
theorem dX10_tangle_37 : decode cX10_tangle 37 = .ok (.iload_n 2, 1) := by decide +kernel
theorem dX10_tangle_38 : decode cX10_tangle 38 = .ok (.invokestatic 243, 3) := by decide +kernel
theorem dX10_tangle_41 : decode cX10_tangle 41 = .ok (.goto 4, 3) := by decide +kernel
theorem dX10_tangle_44 : decode cX10_tangle 44 = .ok (.iload_n 2, 1) := by decide +kernel
theorem dX10_tangle_45 : decode cX10_tangle 45 = .ok (.ireturn, 1) := by decide +kernel
theorem dX10_fitting_0 : decode cX10_fitting 0 = .ok (.aload_n 0, 1) := by decide +kernel
theorem dX10_fitting_1 : decode cX10_fitting 1 = .ok (.iload_n 1, 1) := by decide +kernel
theorem dX10_fitting_2 : decode cX10_fitting 2 = .ok (.invokevirtual 130, 3) := by decide +kernel
theorem dX10_fitting_5 : decode cX10_fitting 5 = .ok (.ifCond .eq 11, 3) := by decide +kernel
theorem dX10_fitting_8 : decode cX10_fitting 8 = .ok (.aload_n 0, 1) := by decide +kernel
theorem dX10_fitting_9 : decode cX10_fitting 9 = .ok (.iload_n 1, 1) := by decide +kernel
theorem dX10_fitting_10 : decode cX10_fitting 10 = .ok (.invokevirtual 248, 3) := by decide +kernel
theorem dX10_fitting_13 : decode cX10_fitting 13 = .ok (.goto 4, 3) := by decide +kernel
theorem dX10_fitting_16 : decode cX10_fitting 16 = .ok (.iconst (-1), 1) := by decide +kernel
theorem dX10_fitting_17 : decode cX10_fitting 17 = .ok (.ireturn, 1) := by decide +kernel
theorem dX10_row_0 : decode cX10_row 0 = .ok (.aload_n 0, 1) := by decide +kernel
theorem dX10_row_1 : decode cX10_row 1 = .ok (.iload_n 1, 1) := by decide +kernel
theorem dX10_row_2 : decode cX10_row 2 = .ok (.invokevirtual 107, 3) := by decide +kernel
theorem dX10_row_5 : decode cX10_row 5 = .ok (.ifCond .ne 5, 3) := by decide +kernel
theorem dX10_row_8 : decode cX10_row 8 = .ok (.iconst (-1), 1) := by decide +kernel
theorem dX10_row_9 : decode cX10_row 9 = .ok (.ireturn, 1) := by decide +kernel
theorem dX10_row_10 : decode cX10_row 10 = .ok (.iconst 0, 1) := by decide +kernel
theorem dX10_row_11 : decode cX10_row 11 = .ok (.istore_n 3, 1) := by decide +kernel
theorem dX10_row_12 : decode cX10_row 12 = .ok (.iload_n 3, 1) := by decide +kernel
theorem dX10_row_13 : decode cX10_row 13 = .ok (.aload_n 0, 1) := by decide +kernel
theorem dX10_row_14 : decode cX10_row 14 = .ok (.getfield 68, 3) := by decide +kernel
theorem dX10_row_17 : decode cX10_row 17 = .ok (.getfield 155, 3) := by decide +kernel
theorem dX10_row_20 : decode cX10_row 20 = .ok (.if_icmp .ge 33, 3) := by decide +kernel
theorem dX10_row_23 : decode cX10_row 23 = .ok (.aload_n 0, 1) := by decide +kernel
theorem dX10_row_24 : decode cX10_row 24 = .ok (.getfield 26, 3) := by decide +kernel
theorem dX10_row_27 : decode cX10_row 27 = .ok (.iload_n 3, 1) := by decide +kernel
theorem dX10_row_28 : decode cX10_row 28 = .ok (.iload_n 1, 1) := by decide +kernel
theorem dX10_row_29 : decode cX10_row 29 = .ok (.invokevirtual 158, 3) := by decide +kernel
theorem dX10_row_32 : decode cX10_row 32 = .ok (.ifCond .eq 15, 3) := by decide +kernel
theorem dX10_row_35 : decode cX10_row 35 = .ok (.aload_n 0, 1) := by decide +kernel
theorem dX10_row_36 : decode cX10_row 36 = .ok (.iload_n 3, 1) := by decide +kernel
theorem dX10_row_37 : decode cX10_row 37 = .ok (.iload_n 1, 1) := by decide +kernel
theorem dX10_row_38 : decode cX10_row 38 = .ok (.invokevirtual 251, 3) := by decide +kernel
theorem dX10_row_41 : decode cX10_row 41 = .ok (.iload_n 2, 1) := by decide +kernel
theorem dX10_row_42 : decode cX10_row 42 = .ok (.if_icmp .ne 5, 3) := by decide +kernel
theorem dX10_row_45 : decode cX10_row 45 = .ok (.iload_n 3, 1) := by decide +kernel
theorem dX10_row_46 : decode cX10_row 46 = .ok (.ireturn, 1) := by decide +kernel
theorem dX10_row_47 : decode cX10_row 47 = .ok (.iinc 3 1, 3) := by decide +kernel
theorem dX10_row_50 : decode cX10_row 50 = .ok (.goto (-38), 3) := by decide +kernel
theorem dX10_row_53 : decode cX10_row 53 = .ok (.iconst (-1), 1) := by decide +kernel
theorem dX10_row_54 : decode cX10_row 54 = .ok (.ireturn, 1) := by decide +kernel
theorem dX10_change_0 : decode cX10_change 0 = .ok (.aload_n 0, 1) := by decide +kernel
theorem dX10_change_1 : decode cX10_change 1 = .ok (.iload_n 1, 1) := by decide +kernel
theorem dX10_change_2 : decode cX10_change 2 = .ok (.invokevirtual 130, 3) := by decide +kernel
theorem dX10_change_5 : decode cX10_change 5 = .ok (.ifCond .eq 11, 3) := by decide +kernel
theorem dX10_change_8 : decode cX10_change 8 = .ok (.aload_n 0, 1) := by decide +kernel
theorem dX10_change_9 : decode cX10_change 9 = .ok (.iload_n 2, 1) := by decide +kernel
theorem dX10_change_10 : decode cX10_change 10 = .ok (.invokevirtual 130, 3) := by decide +kernel
theorem dX10_change_13 : decode cX10_change 13 = .ok (.ifCond .ne 5, 3) := by decide +kernel
theorem dX10_change_16 : decode cX10_change 16 = .ok (.iconst (-1), 1) := by decide +kernel
theorem dX10_change_17 : decode cX10_change 17 = .ok (.ireturn, 1) := by decide +kernel
theorem dX10_change_18 : decode cX10_change 18 = .ok (.aload_n 0, 1) := by decide +kernel
theorem dX10_change_19 : decode cX10_change 19 = .ok (.getfield 26, 3) := by decide +kernel
theorem dX10_change_22 : decode cX10_change 22 = .ok (.iload_n 1, 1) := by decide +kernel
theorem dX10_change_23 : decode cX10_change 23 = .ok (.invokevirtual 142, 3) := by decide +kernel
theorem dX10_change_26 : decode cX10_change 26 = .ok (.istore_n 3, 1) := by decide +kernel
theorem dX10_change_27 : decode cX10_change 27 = .ok (.aload_n 0, 1) := by decide +kernel
theorem dX10_change_28 : decode cX10_change 28 = .ok (.getfield 26, 3) := by decide +kernel
theorem dX10_change_31 : decode cX10_change 31 = .ok (.iload_n 2, 1) := by decide +kernel
theorem dX10_change_32 : decode cX10_change 32 = .ok (.invokevirtual 142, 3) := by decide +kernel
theorem dX10_change_35 : decode cX10_change 35 = .ok (.istore 4, 2) := by decide +kernel
theorem dX10_change_37 : decode cX10_change 37 = .ok (.iload_n 3, 1) := by decide +kernel
theorem dX10_change_38 : decode cX10_change 38 = .ok (.bipush (-2), 2) := by decide +kernel
theorem dX10_change_40 : decode cX10_change 40 = .ok (.if_icmp .eq 16, 3) := by decide +kernel
theorem dX10_change_43 : decode cX10_change 43 = .ok (.iload 4, 2) := by decide +kernel
theorem dX10_change_45 : decode cX10_change 45 = .ok (.bipush (-2), 2) := by decide +kernel
theorem dX10_change_47 : decode cX10_change 47 = .ok (.if_icmp .eq 9, 3) := by decide +kernel
theorem dX10_change_50 : decode cX10_change 50 = .ok (.iload_n 3, 1) := by decide +kernel
theorem dX10_change_51 : decode cX10_change 51 = .ok (.iload 4, 2) := by decide +kernel
theorem dX10_change_53 : decode cX10_change 53 = .ok (.if_icmp .ne 5, 3) := by decide +kernel
theorem dX10_change_56 : decode cX10_change 56 = .ok (.iconst (-1), 1) := by decide +kernel
theorem dX10_change_57 : decode cX10_change 57 = .ok (.ireturn, 1) := by decide +kernel
theorem dX10_change_58 : decode cX10_change 58 = .ok (.aload_n 0, 1) := by decide +kernel
theorem dX10_change_59 : decode cX10_change 59 = .ok (.iload_n 1, 1) := by decide +kernel
theorem dX10_change_60 : decode cX10_change 60 = .ok (.iload 4, 2) := by decide +kernel
theorem dX10_change_62 : decode cX10_change 62 = .ok (.iconst 1, 1) := by decide +kernel
theorem dX10_change_63 : decode cX10_change 63 = .ok (.iload_n 2, 1) := by decide +kernel
theorem dX10_change_64 : decode cX10_change 64 = .ok (.ishl, 1) := by decide +kernel
theorem dX10_change_65 : decode cX10_change 65 = .ok (.invokevirtual 165, 3) := by decide +kernel
theorem dX10_change_68 : decode cX10_change 68 = .ok (.ifCond .eq 19, 3) := by decide +kernel
theorem dX10_change_71 : decode cX10_change 71 = .ok (.aload_n 0, 1) := by decide +kernel
theorem dX10_change_72 : decode cX10_change 72 = .ok (.iload_n 2, 1) := by decide +kernel
theorem dX10_change_73 : decode cX10_change 73 = .ok (.iload_n 3, 1) := by decide +kernel
theorem dX10_change_74 : decode cX10_change 74 = .ok (.iconst 1, 1) := by decide +kernel
theorem dX10_change_75 : decode cX10_change 75 = .ok (.iload_n 1, 1) := by decide +kernel
theorem dX10_change_76 : decode cX10_change 76 = .ok (.ishl, 1) := by decide +kernel
theorem dX10_change_77 : decode cX10_change 77 = .ok (.invokevirtual 165, 3) := by decide +kernel
theorem dX10_change_80 : decode cX10_change 80 = .ok (.ifCond .eq 7, 3) := by decide +kernel
theorem dX10_change_83 : decode cX10_change 83 = .ok (.iconst 1, 1) := by decide +kernel
theorem dX10_change_84 : decode cX10_change 84 = .ok (.goto 4, 3) := by decide +kernel
theorem dX10_change_87 : decode cX10_change 87 = .ok (.iconst 0, 1) := by decide +kernel
theorem dX10_change_88 : decode cX10_change 88 = .ok (.ireturn, 1) := by decide +kernel
theorem dX10_payer_0 : decode cX10_payer 0 = .ok (.aload_n 0, 1) := by decide +kernel
theorem dX10_payer_1 : decode cX10_payer 1 = .ok (.iload_n 1, 1) := by decide +kernel
theorem dX10_payer_2 : decode cX10_payer 2 = .ok (.invokevirtual 199, 3) := by decide +kernel
theorem dX10_payer_5 : decode cX10_payer 5 = .ok (.ifCond .ne 5, 3) := by decide +kernel
theorem dX10_payer_8 : decode cX10_payer 8 = .ok (.iconst (-1), 1) := by decide +kernel
theorem dX10_payer_9 : decode cX10_payer 9 = .ok (.ireturn, 1) := by decide +kernel
theorem dX10_payer_10 : decode cX10_payer 10 = .ok (.bipush (-2), 2) := by decide +kernel
theorem dX10_payer_12 : decode cX10_payer 12 = .ok (.istore_n 2, 1) := by decide +kernel
theorem dX10_payer_13 : decode cX10_payer 13 = .ok (.bipush (-2), 2) := by decide +kernel
theorem dX10_payer_15 : decode cX10_payer 15 = .ok (.istore_n 3, 1) := by decide +kernel
theorem dX10_payer_16 : decode cX10_payer 16 = .ok (.iconst 0, 1) := by decide +kernel
theorem dX10_payer_17 : decode cX10_payer 17 = .ok (.istore 4, 2) := by decide +kernel
theorem dX10_payer_19 : decode cX10_payer 19 = .ok (.iload 4, 2) := by decide +kernel
theorem dX10_payer_21 : decode cX10_payer 21 = .ok (.aload_n 0, 1) := by decide +kernel
theorem dX10_payer_22 : decode cX10_payer 22 = .ok (.getfield 68, 3) := by decide +kernel
theorem dX10_payer_25 : decode cX10_payer 25 = .ok (.getfield 155, 3) := by decide +kernel
theorem dX10_payer_28 : decode cX10_payer 28 = .ok (.if_icmp .ge 55, 3) := by decide +kernel
theorem dX10_payer_31 : decode cX10_payer 31 = .ok (.aload_n 0, 1) := by decide +kernel
theorem dX10_payer_32 : decode cX10_payer 32 = .ok (.getfield 26, 3) := by decide +kernel
theorem dX10_payer_35 : decode cX10_payer 35 = .ok (.iload 4, 2) := by decide +kernel
theorem dX10_payer_37 : decode cX10_payer 37 = .ok (.invokevirtual 142, 3) := by decide +kernel
theorem dX10_payer_40 : decode cX10_payer 40 = .ok (.bipush (-2), 2) := by decide +kernel
theorem dX10_payer_42 : decode cX10_payer 42 = .ok (.if_icmp .eq 35, 3) := by decide +kernel
theorem dX10_payer_45 : decode cX10_payer 45 = .ok (.aload_n 0, 1) := by decide +kernel
theorem dX10_payer_46 : decode cX10_payer 46 = .ok (.getfield 47, 3) := by decide +kernel
theorem dX10_payer_49 : decode cX10_payer 49 = .ok (.iconst 0, 1) := by decide +kernel
theorem dX10_payer_50 : decode cX10_payer 50 = .ok (.aload_n 0, 1) := by decide +kernel
theorem dX10_payer_51 : decode cX10_payer 51 = .ok (.getfield 68, 3) := by decide +kernel
theorem dX10_payer_54 : decode cX10_payer 54 = .ok (.aload_n 0, 1) := by decide +kernel
theorem dX10_payer_55 : decode cX10_payer 55 = .ok (.getfield 26, 3) := by decide +kernel
theorem dX10_payer_58 : decode cX10_payer 58 = .ok (.iload 4, 2) := by decide +kernel
theorem dX10_payer_60 : decode cX10_payer 60 = .ok (.invokevirtual 152, 3) := by decide +kernel
theorem dX10_payer_63 : decode cX10_payer 63 = .ok (.istore 5, 2) := by decide +kernel
theorem dX10_payer_65 : decode cX10_payer 65 = .ok (.iload 5, 2) := by decide +kernel
theorem dX10_payer_67 : decode cX10_payer 67 = .ok (.iload_n 3, 1) := by decide +kernel
theorem dX10_payer_68 : decode cX10_payer 68 = .ok (.if_icmp .le 9, 3) := by decide +kernel
theorem dX10_payer_71 : decode cX10_payer 71 = .ok (.iload 5, 2) := by decide +kernel
theorem dX10_payer_73 : decode cX10_payer 73 = .ok (.istore_n 3, 1) := by decide +kernel
theorem dX10_payer_74 : decode cX10_payer 74 = .ok (.iload 4, 2) := by decide +kernel
theorem dX10_payer_76 : decode cX10_payer 76 = .ok (.istore_n 2, 1) := by decide +kernel
theorem dX10_payer_77 : decode cX10_payer 77 = .ok (.iinc 4 1, 3) := by decide +kernel
theorem dX10_payer_80 : decode cX10_payer 80 = .ok (.goto (-61), 3) := by decide +kernel
theorem dX10_payer_83 : decode cX10_payer 83 = .ok (.iload_n 1, 1) := by decide +kernel
theorem dX10_payer_84 : decode cX10_payer 84 = .ok (.ifCond .ne 7, 3) := by decide +kernel
theorem dX10_payer_87 : decode cX10_payer 87 = .ok (.iload_n 2, 1) := by decide +kernel
theorem dX10_payer_88 : decode cX10_payer 88 = .ok (.goto 4, 3) := by decide +kernel
theorem dX10_payer_91 : decode cX10_payer 91 = .ok (.iload_n 3, 1) := by decide +kernel
theorem dX10_payer_92 : decode cX10_payer 92 = .ok (.ireturn, 1) := by decide +kernel
theorem dX10_idle_0 : decode cX10_idle 0 = .ok (.iconst 0, 1) := by decide +kernel
theorem dX10_idle_1 : decode cX10_idle 1 = .ok (.istore_n 1, 1) := by decide +kernel
theorem dX10_idle_2 : decode cX10_idle 2 = .ok (.iconst 0, 1) := by decide +kernel
theorem dX10_idle_3 : decode cX10_idle 3 = .ok (.istore_n 2, 1) := by decide +kernel
theorem dX10_idle_4 : decode cX10_idle 4 = .ok (.iload_n 2, 1) := by decide +kernel
theorem dX10_idle_5 : decode cX10_idle 5 = .ok (.aload_n 0, 1) := by decide +kernel
theorem dX10_idle_6 : decode cX10_idle 6 = .ok (.getfield 68, 3) := by decide +kernel
theorem dX10_idle_9 : decode cX10_idle 9 = .ok (.getfield 214, 3) := by decide +kernel
theorem dX10_idle_12 : decode cX10_idle 12 = .ok (.if_icmp .ge 49, 3) := by decide +kernel
theorem dX10_idle_15 : decode cX10_idle 15 = .ok (.aload_n 0, 1) := by decide +kernel
theorem dX10_idle_16 : decode cX10_idle 16 = .ok (.getfield 26, 3) := by decide +kernel
theorem dX10_idle_19 : decode cX10_idle 19 = .ok (.iload_n 2, 1) := by decide +kernel
theorem dX10_idle_20 : decode cX10_idle 20 = .ok (.invokevirtual 120, 3) := by decide +kernel
theorem dX10_idle_23 : decode cX10_idle 23 = .ok (.ifCond .ne 32, 3) := by decide +kernel
theorem dX10_idle_26 : decode cX10_idle 26 = .ok (.iload_n 1, 1) := by decide +kernel
theorem dX10_idle_27 : decode cX10_idle 27 = .ok (.aload_n 0, 1) := by decide +kernel
theorem dX10_idle_28 : decode cX10_idle 28 = .ok (.getfield 68, 3) := by decide +kernel
theorem dX10_idle_31 : decode cX10_idle 31 = .ok (.getfield 110, 3) := by decide +kernel
theorem dX10_idle_34 : decode cX10_idle 34 = .ok (.iload_n 2, 1) := by decide +kernel
theorem dX10_idle_35 : decode cX10_idle 35 = .ok (.iaload, 1) := by decide +kernel
theorem dX10_idle_36 : decode cX10_idle 36 = .ok (.aload_n 0, 1) := by decide +kernel
theorem dX10_idle_37 : decode cX10_idle 37 = .ok (.getfield 68, 3) := by decide +kernel
theorem dX10_idle_40 : decode cX10_idle 40 = .ok (.aload_n 0, 1) := by decide +kernel
theorem dX10_idle_41 : decode cX10_idle 41 = .ok (.getfield 26, 3) := by decide +kernel
theorem dX10_idle_44 : decode cX10_idle 44 = .ok (.getfield 123, 3) := by decide +kernel
theorem dX10_idle_47 : decode cX10_idle 47 = .ok (.iload_n 2, 1) := by decide +kernel
theorem dX10_idle_48 : decode cX10_idle 48 = .ok (.iaload, 1) := by decide +kernel
theorem dX10_idle_49 : decode cX10_idle 49 = .ok (.invokevirtual 255, 3) := by decide +kernel
theorem dX10_idle_52 : decode cX10_idle 52 = .ok (.isub, 1) := by decide +kernel
theorem dX10_idle_53 : decode cX10_idle 53 = .ok (.iadd, 1) := by decide +kernel
theorem dX10_idle_54 : decode cX10_idle 54 = .ok (.istore_n 1, 1) := by decide +kernel
theorem dX10_idle_55 : decode cX10_idle 55 = .ok (.iinc 2 1, 3) := by decide +kernel
theorem dX10_idle_58 : decode cX10_idle 58 = .ok (.goto (-54), 3) := by decide +kernel
theorem dX10_idle_61 : decode cX10_idle 61 = .ok (.iload_n 1, 1) := by decide +kernel
theorem dX10_idle_62 : decode cX10_idle 62 = .ok (.ireturn, 1) := by decide +kernel
theorem dX10_used_0 : decode cX10_used 0 = .ok (.aload_n 0, 1) := by decide +kernel
theorem dX10_used_1 : decode cX10_used 1 = .ok (.iload_n 1, 1) := by decide +kernel
theorem dX10_used_2 : decode cX10_used 2 = .ok (.invokevirtual 107, 3) := by decide +kernel
theorem dX10_used_5 : decode cX10_used 5 = .ok (.ifCond .eq 14, 3) := by decide +kernel
theorem dX10_used_8 : decode cX10_used 8 = .ok (.iload_n 2, 1) := by decide +kernel
theorem dX10_used_9 : decode cX10_used 9 = .ok (.iconst 1, 1) := by decide +kernel
theorem dX10_used_10 : decode cX10_used 10 = .ok (.if_icmp .lt 9, 3) := by decide +kernel
theorem dX10_used_13 : decode cX10_used 13 = .ok (.iload_n 2, 1) := by decide +kernel
theorem dX10_used_14 : decode cX10_used 14 = .ok (.bipush 99, 2) := by decide +kernel
theorem dX10_used_16 : decode cX10_used 16 = .ok (.if_icmp .le 5, 3) := by decide +kernel
theorem dX10_used_19 : decode cX10_used 19 = .ok (.iconst (-1), 1) := by decide +kernel
theorem dX10_used_20 : decode cX10_used 20 = .ok (.ireturn, 1) := by decide +kernel
theorem dX10_used_21 : decode cX10_used 21 = .ok (.aload_n 0, 1) := by decide +kernel
theorem dX10_used_22 : decode cX10_used 22 = .ok (.getfield 30, 3) := by decide +kernel
theorem dX10_used_25 : decode cX10_used 25 = .ok (.aload_n 0, 1) := by decide +kernel
theorem dX10_used_26 : decode cX10_used 26 = .ok (.getfield 26, 3) := by decide +kernel
theorem dX10_used_29 : decode cX10_used 29 = .ok (.invokevirtual 258, 3) := by decide +kernel
theorem dX10_used_32 : decode cX10_used 32 = .ok (.iconst 0, 1) := by decide +kernel
theorem dX10_used_33 : decode cX10_used 33 = .ok (.istore_n 3, 1) := by decide +kernel
theorem dX10_used_34 : decode cX10_used 34 = .ok (.iload_n 3, 1) := by decide +kernel
theorem dX10_used_35 : decode cX10_used 35 = .ok (.bipush 100, 2) := by decide +kernel
theorem dX10_used_37 : decode cX10_used 37 = .ok (.if_icmp .gt 39, 3) := by decide +kernel
theorem dX10_used_40 : decode cX10_used 40 = .ok (.aload_n 0, 1) := by decide +kernel
theorem dX10_used_41 : decode cX10_used 41 = .ok (.getfield 30, 3) := by decide +kernel
theorem dX10_used_44 : decode cX10_used 44 = .ok (.getfield 117, 3) := by decide +kernel
theorem dX10_used_47 : decode cX10_used 47 = .ok (.iload_n 1, 1) := by decide +kernel
theorem dX10_used_48 : decode cX10_used 48 = .ok (.iaload, 1) := by decide +kernel
theorem dX10_used_49 : decode cX10_used 49 = .ok (.iload_n 2, 1) := by decide +kernel
theorem dX10_used_50 : decode cX10_used 50 = .ok (.if_icmp .lt 5, 3) := by decide +kernel
theorem dX10_used_53 : decode cX10_used 53 = .ok (.iload_n 3, 1) := by decide +kernel
theorem dX10_used_54 : decode cX10_used 54 = .ok (.ireturn, 1) := by decide +kernel
theorem dX10_used_55 : decode cX10_used 55 = .ok (.aload_n 0, 1) := by decide +kernel
theorem dX10_used_56 : decode cX10_used 56 = .ok (.getfield 47, 3) := by decide +kernel
theorem dX10_used_59 : decode cX10_used 59 = .ok (.aload_n 0, 1) := by decide +kernel
theorem dX10_used_60 : decode cX10_used 60 = .ok (.getfield 68, 3) := by decide +kernel
theorem dX10_used_63 : decode cX10_used 63 = .ok (.aload_n 0, 1) := by decide +kernel
theorem dX10_used_64 : decode cX10_used 64 = .ok (.getfield 30, 3) := by decide +kernel
theorem dX10_used_67 : decode cX10_used 67 = .ok (.invokevirtual 261, 3) := by decide +kernel
theorem dX10_used_70 : decode cX10_used 70 = .ok (.iinc 3 1, 3) := by decide +kernel
theorem dX10_used_73 : decode cX10_used 73 = .ok (.goto (-39), 3) := by decide +kernel
theorem dX10_used_76 : decode cX10_used 76 = .ok (.bipush (-2), 2) := by decide +kernel
theorem dX10_used_78 : decode cX10_used 78 = .ok (.ireturn, 1) := by decide +kernel
theorem dX10_first_0 : decode cX10_first 0 = .ok (.aload_n 0, 1) := by decide +kernel
theorem dX10_first_1 : decode cX10_first 1 = .ok (.iload_n 1, 1) := by decide +kernel
theorem dX10_first_2 : decode cX10_first 2 = .ok (.invokevirtual 199, 3) := by decide +kernel
theorem dX10_first_5 : decode cX10_first 5 = .ok (.ifCond .ne 5, 3) := by decide +kernel
theorem dX10_first_8 : decode cX10_first 8 = .ok (.iconst (-1), 1) := by decide +kernel
theorem dX10_first_9 : decode cX10_first 9 = .ok (.ireturn, 1) := by decide +kernel
theorem dX10_first_10 : decode cX10_first 10 = .ok (.aload_n 0, 1) := by decide +kernel
theorem dX10_first_11 : decode cX10_first 11 = .ok (.getfield 30, 3) := by decide +kernel
theorem dX10_first_14 : decode cX10_first 14 = .ok (.aload_n 0, 1) := by decide +kernel
theorem dX10_first_15 : decode cX10_first 15 = .ok (.getfield 26, 3) := by decide +kernel
theorem dX10_first_18 : decode cX10_first 18 = .ok (.invokevirtual 258, 3) := by decide +kernel
theorem dX10_first_21 : decode cX10_first 21 = .ok (.iconst 0, 1) := by decide +kernel
theorem dX10_first_22 : decode cX10_first 22 = .ok (.istore_n 2, 1) := by decide +kernel
theorem dX10_first_23 : decode cX10_first 23 = .ok (.iload_n 2, 1) := by decide +kernel
theorem dX10_first_24 : decode cX10_first 24 = .ok (.bipush 100, 2) := by decide +kernel
theorem dX10_first_26 : decode cX10_first 26 = .ok (.if_icmp .gt 45, 3) := by decide +kernel
theorem dX10_first_29 : decode cX10_first 29 = .ok (.aload_n 0, 1) := by decide +kernel
theorem dX10_first_30 : decode cX10_first 30 = .ok (.invokevirtual 265, 3) := by decide +kernel
theorem dX10_first_33 : decode cX10_first 33 = .ok (.istore_n 3, 1) := by decide +kernel
theorem dX10_first_34 : decode cX10_first 34 = .ok (.iload_n 3, 1) := by decide +kernel
theorem dX10_first_35 : decode cX10_first 35 = .ok (.bipush (-2), 2) := by decide +kernel
theorem dX10_first_37 : decode cX10_first 37 = .ok (.if_icmp .eq 13, 3) := by decide +kernel
theorem dX10_first_40 : decode cX10_first 40 = .ok (.iload_n 1, 1) := by decide +kernel
theorem dX10_first_41 : decode cX10_first 41 = .ok (.ifCond .ne 7, 3) := by decide +kernel
theorem dX10_first_44 : decode cX10_first 44 = .ok (.iload_n 2, 1) := by decide +kernel
theorem dX10_first_45 : decode cX10_first 45 = .ok (.goto 4, 3) := by decide +kernel
theorem dX10_first_48 : decode cX10_first 48 = .ok (.iload_n 3, 1) := by decide +kernel
theorem dX10_first_49 : decode cX10_first 49 = .ok (.ireturn, 1) := by decide +kernel
theorem dX10_first_50 : decode cX10_first 50 = .ok (.aload_n 0, 1) := by decide +kernel
theorem dX10_first_51 : decode cX10_first 51 = .ok (.getfield 47, 3) := by decide +kernel
theorem dX10_first_54 : decode cX10_first 54 = .ok (.aload_n 0, 1) := by decide +kernel
theorem dX10_first_55 : decode cX10_first 55 = .ok (.getfield 68, 3) := by decide +kernel
theorem dX10_first_58 : decode cX10_first 58 = .ok (.aload_n 0, 1) := by decide +kernel
theorem dX10_first_59 : decode cX10_first 59 = .ok (.getfield 30, 3) := by decide +kernel
theorem dX10_first_62 : decode cX10_first 62 = .ok (.invokevirtual 261, 3) := by decide +kernel
theorem dX10_first_65 : decode cX10_first 65 = .ok (.iinc 2 1, 3) := by decide +kernel
theorem dX10_first_68 : decode cX10_first 68 = .ok (.goto (-45), 3) := by decide +kernel
theorem dX10_first_71 : decode cX10_first 71 = .ok (.bipush (-2), 2) := by decide +kernel
theorem dX10_first_73 : decode cX10_first 73 = .ok (.ireturn, 1) := by decide +kernel
theorem dX10_gap_0 : decode cX10_gap 0 = .ok (.aload_n 0, 1) := by decide +kernel
theorem dX10_gap_1 : decode cX10_gap 1 = .ok (.iload_n 1, 1) := by decide +kernel
theorem dX10_gap_2 : decode cX10_gap 2 = .ok (.invokevirtual 107, 3) := by decide +kernel
theorem dX10_gap_5 : decode cX10_gap 5 = .ok (.ifCond .eq 11, 3) := by decide +kernel
theorem dX10_gap_8 : decode cX10_gap 8 = .ok (.aload_n 0, 1) := by decide +kernel
theorem dX10_gap_9 : decode cX10_gap 9 = .ok (.iload_n 2, 1) := by decide +kernel
theorem dX10_gap_10 : decode cX10_gap 10 = .ok (.invokevirtual 199, 3) := by decide +kernel
theorem dX10_gap_13 : decode cX10_gap 13 = .ok (.ifCond .ne 5, 3) := by decide +kernel
theorem dX10_gap_16 : decode cX10_gap 16 = .ok (.iconst (-1), 1) := by decide +kernel
theorem dX10_gap_17 : decode cX10_gap 17 = .ok (.ireturn, 1) := by decide +kernel
theorem dX10_gap_18 : decode cX10_gap 18 = .ok (.aload_n 0, 1) := by decide +kernel
theorem dX10_gap_19 : decode cX10_gap 19 = .ok (.getfield 68, 3) := by decide +kernel
theorem dX10_gap_22 : decode cX10_gap 22 = .ok (.aload_n 0, 1) := by decide +kernel
theorem dX10_gap_23 : decode cX10_gap 23 = .ok (.getfield 26, 3) := by decide +kernel
theorem dX10_gap_26 : decode cX10_gap 26 = .ok (.getfield 123, 3) := by decide +kernel
theorem dX10_gap_29 : decode cX10_gap 29 = .ok (.iload_n 1, 1) := by decide +kernel
theorem dX10_gap_30 : decode cX10_gap 30 = .ok (.iaload, 1) := by decide +kernel
theorem dX10_gap_31 : decode cX10_gap 31 = .ok (.invokevirtual 269, 3) := by decide +kernel
theorem dX10_gap_34 : decode cX10_gap 34 = .ok (.lstore_n 3, 1) := by decide +kernel
theorem dX10_gap_35 : decode cX10_gap 35 = .ok (.iconst 0, 1) := by decide +kernel
theorem dX10_gap_36 : decode cX10_gap 36 = .ok (.istore 5, 2) := by decide +kernel
theorem dX10_gap_38 : decode cX10_gap 38 = .ok (.bipush (-2), 2) := by decide +kernel
theorem dX10_gap_40 : decode cX10_gap 40 = .ok (.istore 6, 2) := by decide +kernel
theorem dX10_gap_42 : decode cX10_gap 42 = .ok (.iconst 0, 1) := by decide +kernel
theorem dX10_gap_43 : decode cX10_gap 43 = .ok (.istore 7, 2) := by decide +kernel
theorem dX10_gap_45 : decode cX10_gap 45 = .ok (.iconst 0, 1) := by decide +kernel
theorem dX10_gap_46 : decode cX10_gap 46 = .ok (.istore 8, 2) := by decide +kernel
theorem dX10_gap_48 : decode cX10_gap 48 = .ok (.iload 8, 2) := by decide +kernel
theorem dX10_gap_50 : decode cX10_gap 50 = .ok (.aload_n 0, 1) := by decide +kernel
theorem dX10_gap_51 : decode cX10_gap 51 = .ok (.getfield 68, 3) := by decide +kernel
theorem dX10_gap_54 : decode cX10_gap 54 = .ok (.getfield 110, 3) := by decide +kernel
theorem dX10_gap_57 : decode cX10_gap 57 = .ok (.iload_n 1, 1) := by decide +kernel
theorem dX10_gap_58 : decode cX10_gap 58 = .ok (.iaload, 1) := by decide +kernel
theorem dX10_gap_59 : decode cX10_gap 59 = .ok (.if_icmp .ge 50, 3) := by decide +kernel
theorem dX10_gap_62 : decode cX10_gap 62 = .ok (.lload_n 3, 1) := by decide +kernel
theorem dX10_gap_63 : decode cX10_gap 63 = .ok (.iload 8, 2) := by decide +kernel
theorem dX10_gap_65 : decode cX10_gap 65 = .ok (.lushr, 1) := by decide +kernel
theorem dX10_gap_66 : decode cX10_gap 66 = .ok (.lconst 1, 1) := by decide +kernel
theorem dX10_gap_67 : decode cX10_gap 67 = .ok (.land, 1) := by decide +kernel
theorem dX10_gap_68 : decode cX10_gap 68 = .ok (.lconst 0, 1) := by decide +kernel
theorem dX10_gap_69 : decode cX10_gap 69 = .ok (.lcmp, 1) := by decide +kernel
theorem dX10_gap_70 : decode cX10_gap 70 = .ok (.ifCond .ne 10, 3) := by decide +kernel
theorem dX10_gap_73 : decode cX10_gap 73 = .ok (.iload 7, 2) := by decide +kernel
theorem dX10_gap_75 : decode cX10_gap 75 = .ok (.iconst 1, 1) := by decide +kernel
theorem dX10_gap_76 : decode cX10_gap 76 = .ok (.iadd, 1) := by decide +kernel
theorem dX10_gap_77 : decode cX10_gap 77 = .ok (.goto 4, 3) := by decide +kernel
theorem dX10_gap_80 : decode cX10_gap 80 = .ok (.iconst 0, 1) := by decide +kernel
theorem dX10_gap_81 : decode cX10_gap 81 = .ok (.istore 7, 2) := by decide +kernel
theorem dX10_gap_83 : decode cX10_gap 83 = .ok (.iload 7, 2) := by decide +kernel
theorem dX10_gap_85 : decode cX10_gap 85 = .ok (.iload 5, 2) := by decide +kernel
theorem dX10_gap_87 : decode cX10_gap 87 = .ok (.if_icmp .le 16, 3) := by decide +kernel
theorem dX10_gap_90 : decode cX10_gap 90 = .ok (.iload 7, 2) := by decide +kernel
theorem dX10_gap_92 : decode cX10_gap 92 = .ok (.istore 5, 2) := by decide +kernel
theorem dX10_gap_94 : decode cX10_gap 94 = .ok (.iload 8, 2) := by decide +kernel
theorem dX10_gap_96 : decode cX10_gap 96 = .ok (.iload 7, 2) := by decide +kernel
theorem dX10_gap_98 : decode cX10_gap 98 = .ok (.isub, 1) := by decide +kernel
theorem dX10_gap_99 : decode cX10_gap 99 = .ok (.iconst 1, 1) := by decide +kernel
theorem dX10_gap_100 : decode cX10_gap 100 = .ok (.iadd, 1) := by decide +kernel
theorem dX10_gap_101 : decode cX10_gap 101 = .ok (.istore 6, 2) := by decide +kernel
theorem dX10_gap_103 : decode cX10_gap 103 = .ok (.iinc 8 1, 3) := by decide +kernel
theorem dX10_gap_106 : decode cX10_gap 106 = .ok (.goto (-58), 3) := by decide +kernel
theorem dX10_gap_109 : decode cX10_gap 109 = .ok (.iload_n 2, 1) := by decide +kernel
theorem dX10_gap_110 : decode cX10_gap 110 = .ok (.ifCond .ne 8, 3) := by decide +kernel
theorem dX10_gap_113 : decode cX10_gap 113 = .ok (.iload 5, 2) := by decide +kernel
theorem dX10_gap_115 : decode cX10_gap 115 = .ok (.goto 5, 3) := by decide +kernel
theorem dX10_gap_118 : decode cX10_gap 118 = .ok (.iload 6, 2) := by decide +kernel
theorem dX10_gap_120 : decode cX10_gap 120 = .ok (.ireturn, 1) := by decide +kernel
theorem dX10_room_0 : decode cX10_room 0 = .ok (.aload_n 0, 1) := by decide +kernel
theorem dX10_room_1 : decode cX10_room 1 = .ok (.iload_n 1, 1) := by decide +kernel
theorem dX10_room_2 : decode cX10_room 2 = .ok (.invokevirtual 130, 3) := by decide +kernel
theorem dX10_room_5 : decode cX10_room 5 = .ok (.ifCond .ne 5, 3) := by decide +kernel
theorem dX10_room_8 : decode cX10_room 8 = .ok (.iconst (-1), 1) := by decide +kernel
theorem dX10_room_9 : decode cX10_room 9 = .ok (.ireturn, 1) := by decide +kernel
theorem dX10_room_10 : decode cX10_room 10 = .ok (.iconst 0, 1) := by decide +kernel
theorem dX10_room_11 : decode cX10_room 11 = .ok (.istore_n 2, 1) := by decide +kernel
theorem dX10_room_12 : decode cX10_room 12 = .ok (.iconst 0, 1) := by decide +kernel
theorem dX10_room_13 : decode cX10_room 13 = .ok (.istore_n 3, 1) := by decide +kernel
theorem dX10_room_14 : decode cX10_room 14 = .ok (.iload_n 3, 1) := by decide +kernel
theorem dX10_room_15 : decode cX10_room 15 = .ok (.aload_n 0, 1) := by decide +kernel
theorem dX10_room_16 : decode cX10_room 16 = .ok (.getfield 68, 3) := by decide +kernel
theorem dX10_room_19 : decode cX10_room 19 = .ok (.getfield 214, 3) := by decide +kernel
theorem dX10_room_22 : decode cX10_room 22 = .ok (.if_icmp .ge 25, 3) := by decide +kernel
theorem dX10_room_25 : decode cX10_room 25 = .ok (.aload_n 0, 1) := by decide +kernel
theorem dX10_room_26 : decode cX10_room 26 = .ok (.iload_n 1, 1) := by decide +kernel
theorem dX10_room_27 : decode cX10_room 27 = .ok (.iload_n 3, 1) := by decide +kernel
theorem dX10_room_28 : decode cX10_room 28 = .ok (.iconst 0, 1) := by decide +kernel
theorem dX10_room_29 : decode cX10_room 29 = .ok (.invokevirtual 165, 3) := by decide +kernel
theorem dX10_room_32 : decode cX10_room 32 = .ok (.ifCond .eq 9, 3) := by decide +kernel
theorem dX10_room_35 : decode cX10_room 35 = .ok (.iload_n 2, 1) := by decide +kernel
theorem dX10_room_36 : decode cX10_room 36 = .ok (.iconst 1, 1) := by decide +kernel
theorem dX10_room_37 : decode cX10_room 37 = .ok (.iload_n 3, 1) := by decide +kernel
theorem dX10_room_38 : decode cX10_room 38 = .ok (.ishl, 1) := by decide +kernel
theorem dX10_room_39 : decode cX10_room 39 = .ok (.ior, 1) := by decide +kernel
theorem dX10_room_40 : decode cX10_room 40 = .ok (.istore_n 2, 1) := by decide +kernel
theorem dX10_room_41 : decode cX10_room 41 = .ok (.iinc 3 1, 3) := by decide +kernel
theorem dX10_room_44 : decode cX10_room 44 = .ok (.goto (-30), 3) := by decide +kernel
theorem dX10_room_47 : decode cX10_room 47 = .ok (.iload_n 2, 1) := by decide +kernel
theorem dX10_room_48 : decode cX10_room 48 = .ok (.ireturn, 1) := by decide +kernel
theorem dX10_price_0 : decode cX10_price 0 = .ok (.aload_n 0, 1) := by decide +kernel
theorem dX10_price_1 : decode cX10_price 1 = .ok (.iload_n 1, 1) := by decide +kernel
theorem dX10_price_2 : decode cX10_price 2 = .ok (.invokevirtual 107, 3) := by decide +kernel
theorem dX10_price_5 : decode cX10_price 5 = .ok (.ifCond .eq 22, 3) := by decide +kernel
theorem dX10_price_8 : decode cX10_price 8 = .ok (.aload_n 0, 1) := by decide +kernel
theorem dX10_price_9 : decode cX10_price 9 = .ok (.getfield 26, 3) := by decide +kernel
theorem dX10_price_12 : decode cX10_price 12 = .ok (.iload_n 1, 1) := by decide +kernel
theorem dX10_price_13 : decode cX10_price 13 = .ok (.invokevirtual 120, 3) := by decide +kernel
theorem dX10_price_16 : decode cX10_price 16 = .ok (.ifCond .ne 11, 3) := by decide +kernel
theorem dX10_price_19 : decode cX10_price 19 = .ok (.aload_n 0, 1) := by decide +kernel
theorem dX10_price_20 : decode cX10_price 20 = .ok (.iload_n 2, 1) := by decide +kernel
theorem dX10_price_21 : decode cX10_price 21 = .ok (.invokevirtual 182, 3) := by decide +kernel
theorem dX10_price_24 : decode cX10_price 24 = .ok (.ifCond .ne 5, 3) := by decide +kernel
theorem dX10_price_27 : decode cX10_price 27 = .ok (.iconst (-1), 1) := by decide +kernel
theorem dX10_price_28 : decode cX10_price 28 = .ok (.ireturn, 1) := by decide +kernel
theorem dX10_price_29 : decode cX10_price 29 = .ok (.aload_n 0, 1) := by decide +kernel
theorem dX10_price_30 : decode cX10_price 30 = .ok (.getfield 30, 3) := by decide +kernel
theorem dX10_price_33 : decode cX10_price 33 = .ok (.aload_n 0, 1) := by decide +kernel
theorem dX10_price_34 : decode cX10_price 34 = .ok (.getfield 26, 3) := by decide +kernel
theorem dX10_price_37 : decode cX10_price 37 = .ok (.invokevirtual 258, 3) := by decide +kernel
theorem dX10_price_40 : decode cX10_price 40 = .ok (.iconst 0, 1) := by decide +kernel
theorem dX10_price_41 : decode cX10_price 41 = .ok (.istore_n 3, 1) := by decide +kernel
theorem dX10_price_42 : decode cX10_price 42 = .ok (.iload_n 3, 1) := by decide +kernel
theorem dX10_price_43 : decode cX10_price 43 = .ok (.iload_n 2, 1) := by decide +kernel
theorem dX10_price_44 : decode cX10_price 44 = .ok (.if_icmp .ge 24, 3) := by decide +kernel
theorem dX10_price_47 : decode cX10_price 47 = .ok (.aload_n 0, 1) := by decide +kernel
theorem dX10_price_48 : decode cX10_price 48 = .ok (.getfield 47, 3) := by decide +kernel
theorem dX10_price_51 : decode cX10_price 51 = .ok (.aload_n 0, 1) := by decide +kernel
theorem dX10_price_52 : decode cX10_price 52 = .ok (.getfield 68, 3) := by decide +kernel
theorem dX10_price_55 : decode cX10_price 55 = .ok (.aload_n 0, 1) := by decide +kernel
theorem dX10_price_56 : decode cX10_price 56 = .ok (.getfield 30, 3) := by decide +kernel
theorem dX10_price_59 : decode cX10_price 59 = .ok (.invokevirtual 261, 3) := by decide +kernel
theorem dX10_price_62 : decode cX10_price 62 = .ok (.iinc 3 1, 3) := by decide +kernel
theorem dX10_price_65 : decode cX10_price 65 = .ok (.goto (-23), 3) := by decide +kernel
theorem dX10_price_68 : decode cX10_price 68 = .ok (.aload_n 0, 1) := by decide +kernel
theorem dX10_price_69 : decode cX10_price 69 = .ok (.getfield 47, 3) := by decide +kernel
theorem dX10_price_72 : decode cX10_price 72 = .ok (.iconst 3, 1) := by decide +kernel
theorem dX10_price_73 : decode cX10_price 73 = .ok (.aload_n 0, 1) := by decide +kernel
theorem dX10_price_74 : decode cX10_price 74 = .ok (.getfield 68, 3) := by decide +kernel
theorem dX10_price_77 : decode cX10_price 77 = .ok (.aload_n 0, 1) := by decide +kernel
theorem dX10_price_78 : decode cX10_price 78 = .ok (.getfield 30, 3) := by decide +kernel
theorem dX10_price_81 : decode cX10_price 81 = .ok (.iload_n 1, 1) := by decide +kernel
theorem dX10_price_82 : decode cX10_price 82 = .ok (.invokevirtual 126, 3) := by decide +kernel
theorem dX10_price_85 : decode cX10_price 85 = .ok (.ireturn, 1) := by decide +kernel
theorem dX10_best_0 : decode cX10_best 0 = .ok (.aload_n 0, 1) := by decide +kernel
theorem dX10_best_1 : decode cX10_best 1 = .ok (.iload_n 1, 1) := by decide +kernel
theorem dX10_best_2 : decode cX10_best 2 = .ok (.invokevirtual 107, 3) := by decide +kernel
theorem dX10_best_5 : decode cX10_best 5 = .ok (.ifCond .eq 30, 3) := by decide +kernel
theorem dX10_best_8 : decode cX10_best 8 = .ok (.aload_n 0, 1) := by decide +kernel
theorem dX10_best_9 : decode cX10_best 9 = .ok (.getfield 26, 3) := by decide +kernel
theorem dX10_best_12 : decode cX10_best 12 = .ok (.iload_n 1, 1) := by decide +kernel
theorem dX10_best_13 : decode cX10_best 13 = .ok (.invokevirtual 120, 3) := by decide +kernel
theorem dX10_best_16 : decode cX10_best 16 = .ok (.ifCond .ne 19, 3) := by decide +kernel
theorem dX10_best_19 : decode cX10_best 19 = .ok (.aload_n 0, 1) := by decide +kernel
theorem dX10_best_20 : decode cX10_best 20 = .ok (.iload_n 2, 1) := by decide +kernel
theorem dX10_best_21 : decode cX10_best 21 = .ok (.invokevirtual 182, 3) := by decide +kernel
theorem dX10_best_24 : decode cX10_best 24 = .ok (.ifCond .eq 11, 3) := by decide +kernel
theorem dX10_best_27 : decode cX10_best 27 = .ok (.aload_n 0, 1) := by decide +kernel
theorem dX10_best_28 : decode cX10_best 28 = .ok (.iload_n 3, 1) := by decide +kernel
theorem dX10_best_29 : decode cX10_best 29 = .ok (.invokevirtual 199, 3) := by decide +kernel
theorem dX10_best_32 : decode cX10_best 32 = .ok (.ifCond .ne 5, 3) := by decide +kernel
theorem dX10_best_35 : decode cX10_best 35 = .ok (.iconst (-1), 1) := by decide +kernel
theorem dX10_best_36 : decode cX10_best 36 = .ok (.ireturn, 1) := by decide +kernel
theorem dX10_best_37 : decode cX10_best 37 = .ok (.aload_n 0, 1) := by decide +kernel
theorem dX10_best_38 : decode cX10_best 38 = .ok (.getfield 30, 3) := by decide +kernel
theorem dX10_best_41 : decode cX10_best 41 = .ok (.aload_n 0, 1) := by decide +kernel
theorem dX10_best_42 : decode cX10_best 42 = .ok (.getfield 26, 3) := by decide +kernel
theorem dX10_best_45 : decode cX10_best 45 = .ok (.invokevirtual 258, 3) := by decide +kernel
theorem dX10_best_48 : decode cX10_best 48 = .ok (.iconst 0, 1) := by decide +kernel
theorem dX10_best_49 : decode cX10_best 49 = .ok (.istore 4, 2) := by decide +kernel
theorem dX10_best_51 : decode cX10_best 51 = .ok (.aload_n 0, 1) := by decide +kernel
theorem dX10_best_52 : decode cX10_best 52 = .ok (.getfield 47, 3) := by decide +kernel
theorem dX10_best_55 : decode cX10_best 55 = .ok (.iconst 3, 1) := by decide +kernel
theorem dX10_best_56 : decode cX10_best 56 = .ok (.aload_n 0, 1) := by decide +kernel
theorem dX10_best_57 : decode cX10_best 57 = .ok (.getfield 68, 3) := by decide +kernel
theorem dX10_best_60 : decode cX10_best 60 = .ok (.aload_n 0, 1) := by decide +kernel
theorem dX10_best_61 : decode cX10_best 61 = .ok (.getfield 30, 3) := by decide +kernel
theorem dX10_best_64 : decode cX10_best 64 = .ok (.iload_n 1, 1) := by decide +kernel
theorem dX10_best_65 : decode cX10_best 65 = .ok (.invokevirtual 126, 3) := by decide +kernel
theorem dX10_best_68 : decode cX10_best 68 = .ok (.istore 5, 2) := by decide +kernel
theorem dX10_best_70 : decode cX10_best 70 = .ok (.iconst 1, 1) := by decide +kernel
theorem dX10_best_71 : decode cX10_best 71 = .ok (.istore 6, 2) := by decide +kernel
theorem dX10_best_73 : decode cX10_best 73 = .ok (.iload 6, 2) := by decide +kernel
theorem dX10_best_75 : decode cX10_best 75 = .ok (.iload_n 2, 1) := by decide +kernel
theorem dX10_best_76 : decode cX10_best 76 = .ok (.if_icmp .gt 58, 3) := by decide +kernel
theorem dX10_best_79 : decode cX10_best 79 = .ok (.aload_n 0, 1) := by decide +kernel
theorem dX10_best_80 : decode cX10_best 80 = .ok (.getfield 47, 3) := by decide +kernel
theorem dX10_best_83 : decode cX10_best 83 = .ok (.aload_n 0, 1) := by decide +kernel
theorem dX10_best_84 : decode cX10_best 84 = .ok (.getfield 68, 3) := by decide +kernel
theorem dX10_best_87 : decode cX10_best 87 = .ok (.aload_n 0, 1) := by decide +kernel
theorem dX10_best_88 : decode cX10_best 88 = .ok (.getfield 30, 3) := by decide +kernel
theorem dX10_best_91 : decode cX10_best 91 = .ok (.invokevirtual 261, 3) := by decide +kernel
theorem dX10_best_94 : decode cX10_best 94 = .ok (.aload_n 0, 1) := by decide +kernel
theorem dX10_best_95 : decode cX10_best 95 = .ok (.getfield 47, 3) := by decide +kernel
theorem dX10_best_98 : decode cX10_best 98 = .ok (.iconst 3, 1) := by decide +kernel
theorem dX10_best_99 : decode cX10_best 99 = .ok (.aload_n 0, 1) := by decide +kernel
theorem dX10_best_100 : decode cX10_best 100 = .ok (.getfield 68, 3) := by decide +kernel
theorem dX10_best_103 : decode cX10_best 103 = .ok (.aload_n 0, 1) := by decide +kernel
theorem dX10_best_104 : decode cX10_best 104 = .ok (.getfield 30, 3) := by decide +kernel
theorem dX10_best_107 : decode cX10_best 107 = .ok (.iload_n 1, 1) := by decide +kernel
theorem dX10_best_108 : decode cX10_best 108 = .ok (.invokevirtual 126, 3) := by decide +kernel
theorem dX10_best_111 : decode cX10_best 111 = .ok (.istore 7, 2) := by decide +kernel
theorem dX10_best_113 : decode cX10_best 113 = .ok (.iload 7, 2) := by decide +kernel
theorem dX10_best_115 : decode cX10_best 115 = .ok (.iload 5, 2) := by decide +kernel
theorem dX10_best_117 : decode cX10_best 117 = .ok (.if_icmp .le 11, 3) := by decide +kernel
theorem dX10_best_120 : decode cX10_best 120 = .ok (.iload 7, 2) := by decide +kernel
theorem dX10_best_122 : decode cX10_best 122 = .ok (.istore 5, 2) := by decide +kernel
theorem dX10_best_124 : decode cX10_best 124 = .ok (.iload 6, 2) := by decide +kernel
theorem dX10_best_126 : decode cX10_best 126 = .ok (.istore 4, 2) := by decide +kernel
theorem dX10_best_128 : decode cX10_best 128 = .ok (.iinc 6 1, 3) := by decide +kernel
theorem dX10_best_131 : decode cX10_best 131 = .ok (.goto (-58), 3) := by decide +kernel
theorem dX10_best_134 : decode cX10_best 134 = .ok (.iload_n 3, 1) := by decide +kernel
theorem dX10_best_135 : decode cX10_best 135 = .ok (.ifCond .ne 8, 3) := by decide +kernel
theorem dX10_best_138 : decode cX10_best 138 = .ok (.iload 4, 2) := by decide +kernel
theorem dX10_best_140 : decode cX10_best 140 = .ok (.goto 5, 3) := by decide +kernel
theorem dX10_best_143 : decode cX10_best 143 = .ok (.iload 5, 2) := by decide +kernel
theorem dX10_best_145 : decode cX10_best 145 = .ok (.ireturn, 1) := by decide +kernel
theorem dX10_weary_0 : decode cX10_weary 0 = .ok (.aload_n 0, 1) := by decide +kernel
theorem dX10_weary_1 : decode cX10_weary 1 = .ok (.iload_n 1, 1) := by decide +kernel
theorem dX10_weary_2 : decode cX10_weary 2 = .ok (.invokevirtual 130, 3) := by decide +kernel
theorem dX10_weary_5 : decode cX10_weary 5 = .ok (.ifCond .ne 5, 3) := by decide +kernel
theorem dX10_weary_8 : decode cX10_weary 8 = .ok (.iconst (-1), 1) := by decide +kernel
theorem dX10_weary_9 : decode cX10_weary 9 = .ok (.ireturn, 1) := by decide +kernel
theorem dX10_weary_10 : decode cX10_weary 10 = .ok (.aload_n 0, 1) := by decide +kernel
theorem dX10_weary_11 : decode cX10_weary 11 = .ok (.getfield 30, 3) := by decide +kernel
theorem dX10_weary_14 : decode cX10_weary 14 = .ok (.aload_n 0, 1) := by decide +kernel
theorem dX10_weary_15 : decode cX10_weary 15 = .ok (.getfield 26, 3) := by decide +kernel
theorem dX10_weary_18 : decode cX10_weary 18 = .ok (.invokevirtual 258, 3) := by decide +kernel
theorem dX10_weary_21 : decode cX10_weary 21 = .ok (.iconst 0, 1) := by decide +kernel
theorem dX10_weary_22 : decode cX10_weary 22 = .ok (.istore_n 2, 1) := by decide +kernel
theorem dX10_weary_23 : decode cX10_weary 23 = .ok (.iload_n 2, 1) := by decide +kernel
theorem dX10_weary_24 : decode cX10_weary 24 = .ok (.bipush 100, 2) := by decide +kernel
theorem dX10_weary_26 : decode cX10_weary 26 = .ok (.if_icmp .gt 45, 3) := by decide +kernel
theorem dX10_weary_29 : decode cX10_weary 29 = .ok (.aload_n 0, 1) := by decide +kernel
theorem dX10_weary_30 : decode cX10_weary 30 = .ok (.getfield 30, 3) := by decide +kernel
theorem dX10_weary_33 : decode cX10_weary 33 = .ok (.getfield 146, 3) := by decide +kernel
theorem dX10_weary_36 : decode cX10_weary 36 = .ok (.iload_n 1, 1) := by decide +kernel
theorem dX10_weary_37 : decode cX10_weary 37 = .ok (.iaload, 1) := by decide +kernel
theorem dX10_weary_38 : decode cX10_weary 38 = .ok (.aload_n 0, 1) := by decide +kernel
theorem dX10_weary_39 : decode cX10_weary 39 = .ok (.getfield 68, 3) := by decide +kernel
theorem dX10_weary_42 : decode cX10_weary 42 = .ok (.getfield 273, 3) := by decide +kernel
theorem dX10_weary_45 : decode cX10_weary 45 = .ok (.if_icmp .lt 5, 3) := by decide +kernel
theorem dX10_weary_48 : decode cX10_weary 48 = .ok (.iload_n 2, 1) := by decide +kernel
theorem dX10_weary_49 : decode cX10_weary 49 = .ok (.ireturn, 1) := by decide +kernel
theorem dX10_weary_50 : decode cX10_weary 50 = .ok (.aload_n 0, 1) := by decide +kernel
theorem dX10_weary_51 : decode cX10_weary 51 = .ok (.getfield 47, 3) := by decide +kernel
theorem dX10_weary_54 : decode cX10_weary 54 = .ok (.aload_n 0, 1) := by decide +kernel
theorem dX10_weary_55 : decode cX10_weary 55 = .ok (.getfield 68, 3) := by decide +kernel
theorem dX10_weary_58 : decode cX10_weary 58 = .ok (.aload_n 0, 1) := by decide +kernel
theorem dX10_weary_59 : decode cX10_weary 59 = .ok (.getfield 30, 3) := by decide +kernel
theorem dX10_weary_62 : decode cX10_weary 62 = .ok (.invokevirtual 261, 3) := by decide +kernel
theorem dX10_weary_65 : decode cX10_weary 65 = .ok (.iinc 2 1, 3) := by decide +kernel
theorem dX10_weary_68 : decode cX10_weary 68 = .ok (.goto (-45), 3) := by decide +kernel
theorem dX10_weary_71 : decode cX10_weary 71 = .ok (.bipush (-2), 2) := by decide +kernel
theorem dX10_weary_73 : decode cX10_weary 73 = .ok (.ireturn, 1) := by decide +kernel
theorem dX10_earned_0 : decode cX10_earned 0 = .ok (.aload_n 0, 1) := by decide +kernel
theorem dX10_earned_1 : decode cX10_earned 1 = .ok (.iload_n 1, 1) := by decide +kernel
theorem dX10_earned_2 : decode cX10_earned 2 = .ok (.invokevirtual 182, 3) := by decide +kernel
theorem dX10_earned_5 : decode cX10_earned 5 = .ok (.ifCond .ne 5, 3) := by decide +kernel
theorem dX10_earned_8 : decode cX10_earned 8 = .ok (.iconst (-1), 1) := by decide +kernel
theorem dX10_earned_9 : decode cX10_earned 9 = .ok (.ireturn, 1) := by decide +kernel
theorem dX10_earned_10 : decode cX10_earned 10 = .ok (.aload_n 0, 1) := by decide +kernel
theorem dX10_earned_11 : decode cX10_earned 11 = .ok (.getfield 30, 3) := by decide +kernel
theorem dX10_earned_14 : decode cX10_earned 14 = .ok (.aload_n 0, 1) := by decide +kernel
theorem dX10_earned_15 : decode cX10_earned 15 = .ok (.getfield 26, 3) := by decide +kernel
theorem dX10_earned_18 : decode cX10_earned 18 = .ok (.invokevirtual 258, 3) := by decide +kernel
theorem dX10_earned_21 : decode cX10_earned 21 = .ok (.iconst 0, 1) := by decide +kernel
theorem dX10_earned_22 : decode cX10_earned 22 = .ok (.istore_n 2, 1) := by decide +kernel
theorem dX10_earned_23 : decode cX10_earned 23 = .ok (.iload_n 2, 1) := by decide +kernel
theorem dX10_earned_24 : decode cX10_earned 24 = .ok (.iload_n 1, 1) := by decide +kernel
theorem dX10_earned_25 : decode cX10_earned 25 = .ok (.if_icmp .ge 24, 3) := by decide +kernel
theorem dX10_earned_28 : decode cX10_earned 28 = .ok (.aload_n 0, 1) := by decide +kernel
theorem dX10_earned_29 : decode cX10_earned 29 = .ok (.getfield 47, 3) := by decide +kernel
theorem dX10_earned_32 : decode cX10_earned 32 = .ok (.aload_n 0, 1) := by decide +kernel
theorem dX10_earned_33 : decode cX10_earned 33 = .ok (.getfield 68, 3) := by decide +kernel
theorem dX10_earned_36 : decode cX10_earned 36 = .ok (.aload_n 0, 1) := by decide +kernel
theorem dX10_earned_37 : decode cX10_earned 37 = .ok (.getfield 30, 3) := by decide +kernel
theorem dX10_earned_40 : decode cX10_earned 40 = .ok (.invokevirtual 261, 3) := by decide +kernel
theorem dX10_earned_43 : decode cX10_earned 43 = .ok (.iinc 2 1, 3) := by decide +kernel
theorem dX10_earned_46 : decode cX10_earned 46 = .ok (.goto (-23), 3) := by decide +kernel
theorem dX10_earned_49 : decode cX10_earned 49 = .ok (.aload_n 0, 1) := by decide +kernel
theorem dX10_earned_50 : decode cX10_earned 50 = .ok (.getfield 30, 3) := by decide +kernel
theorem dX10_earned_53 : decode cX10_earned 53 = .ok (.getfield 179, 3) := by decide +kernel
theorem dX10_earned_56 : decode cX10_earned 56 = .ok (.aload_n 0, 1) := by decide +kernel
theorem dX10_earned_57 : decode cX10_earned 57 = .ok (.getfield 26, 3) := by decide +kernel
theorem dX10_earned_60 : decode cX10_earned 60 = .ok (.getfield 179, 3) := by decide +kernel
theorem dX10_earned_63 : decode cX10_earned 63 = .ok (.isub, 1) := by decide +kernel
theorem dX10_earned_64 : decode cX10_earned 64 = .ok (.ireturn, 1) := by decide +kernel
theorem dX10_rivals_0 : decode cX10_rivals 0 = .ok (.aload_n 0, 1) := by decide +kernel
theorem dX10_rivals_1 : decode cX10_rivals 1 = .ok (.iload_n 1, 1) := by decide +kernel
theorem dX10_rivals_2 : decode cX10_rivals 2 = .ok (.invokevirtual 130, 3) := by decide +kernel
theorem dX10_rivals_5 : decode cX10_rivals 5 = .ok (.ifCond .eq 15, 3) := by decide +kernel
theorem dX10_rivals_8 : decode cX10_rivals 8 = .ok (.aload_n 0, 1) := by decide +kernel
theorem dX10_rivals_9 : decode cX10_rivals 9 = .ok (.getfield 68, 3) := by decide +kernel
theorem dX10_rivals_12 : decode cX10_rivals 12 = .ok (.getfield 276, 3) := by decide +kernel
theorem dX10_rivals_15 : decode cX10_rivals 15 = .ok (.iload_n 1, 1) := by decide +kernel
theorem dX10_rivals_16 : decode cX10_rivals 16 = .ok (.iaload, 1) := by decide +kernel
theorem dX10_rivals_17 : decode cX10_rivals 17 = .ok (.goto 4, 3) := by decide +kernel
theorem dX10_rivals_20 : decode cX10_rivals 20 = .ok (.iconst (-1), 1) := by decide +kernel
theorem dX10_rivals_21 : decode cX10_rivals 21 = .ok (.ireturn, 1) := by decide +kernel
theorem dX10_then_0 : decode cX10_then 0 = .ok (.aload_n 0, 1) := by decide +kernel
theorem dX10_then_1 : decode cX10_then 1 = .ok (.iload_n 1, 1) := by decide +kernel
theorem dX10_then_2 : decode cX10_then 2 = .ok (.invokevirtual 130, 3) := by decide +kernel
theorem dX10_then_5 : decode cX10_then 5 = .ok (.ifCond .eq 20, 3) := by decide +kernel
theorem dX10_then_8 : decode cX10_then 8 = .ok (.aload_n 0, 1) := by decide +kernel
theorem dX10_then_9 : decode cX10_then 9 = .ok (.iload_n 2, 1) := by decide +kernel
theorem dX10_then_10 : decode cX10_then 10 = .ok (.invokevirtual 182, 3) := by decide +kernel
theorem dX10_then_13 : decode cX10_then 13 = .ok (.ifCond .eq 12, 3) := by decide +kernel
theorem dX10_then_16 : decode cX10_then 16 = .ok (.iload_n 3, 1) := by decide +kernel
theorem dX10_then_17 : decode cX10_then 17 = .ok (.ifCond .lt 8, 3) := by decide +kernel
theorem dX10_then_20 : decode cX10_then 20 = .ok (.iload_n 3, 1) := by decide +kernel
theorem dX10_then_21 : decode cX10_then 21 = .ok (.iconst 2, 1) := by decide +kernel
