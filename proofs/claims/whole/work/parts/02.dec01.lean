theorem dX0_init_0 : decode cX0_init 0 = .ok (.aload_n 0, 1) := by decide +kernel
theorem dX0_init_1 : decode cX0_init 1 = .ok (.invokespecial 3, 3) := by decide +kernel
theorem dX0_init_4 : decode cX0_init 4 = .ok (.aload_n 0, 1) := by decide +kernel
theorem dX0_init_5 : decode cX0_init 5 = .ok (.iconst 0, 1) := by decide +kernel
theorem dX0_init_6 : decode cX0_init 6 = .ok (.putfield 9, 3) := by decide +kernel
theorem dX0_init_9 : decode cX0_init 9 = .ok (.aload_n 0, 1) := by decide +kernel
theorem dX0_init_10 : decode cX0_init 10 = .ok (.bipush 20, 2) := by decide +kernel
theorem dX0_init_12 : decode cX0_init 12 = .ok (.newarray .int, 2) := by decide +kernel
theorem dX0_init_14 : decode cX0_init 14 = .ok (.putfield 15, 3) := by decide +kernel
theorem dX0_init_17 : decode cX0_init 17 = .ok (.aload_n 0, 1) := by decide +kernel
theorem dX0_init_18 : decode cX0_init 18 = .ok (.bipush 20, 2) := by decide +kernel
theorem dX0_init_20 : decode cX0_init 20 = .ok (.newarray .boolean, 2) := by decide +kernel
theorem dX0_init_22 : decode cX0_init 22 = .ok (.putfield 19, 3) := by decide +kernel
theorem dX0_init_25 : decode cX0_init 25 = .ok (.return_, 1) := by decide +kernel
theorem dX0_add_0 : decode cX0_add 0 = .ok (.aload_n 0, 1) := by decide +kernel
theorem dX0_add_1 : decode cX0_add 1 = .ok (.getfield 9, 3) := by decide +kernel
theorem dX0_add_4 : decode cX0_add 4 = .ok (.bipush 20, 2) := by decide +kernel
theorem dX0_add_6 : decode cX0_add 6 = .ok (.if_icmp .lt 5, 3) := by decide +kernel
theorem dX0_add_9 : decode cX0_add 9 = .ok (.iconst (-1), 1) := by decide +kernel
theorem dX0_add_10 : decode cX0_add 10 = .ok (.ireturn, 1) := by decide +kernel
theorem dX0_add_11 : decode cX0_add 11 = .ok (.aload_n 0, 1) := by decide +kernel
theorem dX0_add_12 : decode cX0_add 12 = .ok (.getfield 15, 3) := by decide +kernel
theorem dX0_add_15 : decode cX0_add 15 = .ok (.aload_n 0, 1) := by decide +kernel
theorem dX0_add_16 : decode cX0_add 16 = .ok (.getfield 9, 3) := by decide +kernel
theorem dX0_add_19 : decode cX0_add 19 = .ok (.iload_n 1, 1) := by decide +kernel
theorem dX0_add_20 : decode cX0_add 20 = .ok (.iastore, 1) := by decide +kernel
theorem dX0_add_21 : decode cX0_add 21 = .ok (.aload_n 0, 1) := by decide +kernel
theorem dX0_add_22 : decode cX0_add 22 = .ok (.getfield 19, 3) := by decide +kernel
theorem dX0_add_25 : decode cX0_add 25 = .ok (.aload_n 0, 1) := by decide +kernel
theorem dX0_add_26 : decode cX0_add 26 = .ok (.getfield 9, 3) := by decide +kernel
theorem dX0_add_29 : decode cX0_add 29 = .ok (.iload_n 2, 1) := by decide +kernel
theorem dX0_add_30 : decode cX0_add 30 = .ok (.bastore, 1) := by decide +kernel
theorem dX0_add_31 : decode cX0_add 31 = .ok (.aload_n 0, 1) := by decide +kernel
theorem dX0_add_32 : decode cX0_add 32 = .ok (.dup, 1) := by decide +kernel
theorem dX0_add_33 : decode cX0_add 33 = .ok (.getfield 9, 3) := by decide +kernel
theorem dX0_add_36 : decode cX0_add 36 = .ok (.iconst 1, 1) := by decide +kernel
theorem dX0_add_37 : decode cX0_add 37 = .ok (.iadd, 1) := by decide +kernel
theorem dX0_add_38 : decode cX0_add 38 = .ok (.putfield 9, 3) := by decide +kernel
theorem dX0_add_41 : decode cX0_add 41 = .ok (.aload_n 0, 1) := by decide +kernel
theorem dX0_add_42 : decode cX0_add 42 = .ok (.getfield 9, 3) := by decide +kernel
theorem dX0_add_45 : decode cX0_add 45 = .ok (.iconst 1, 1) := by decide +kernel
theorem dX0_add_46 : decode cX0_add 46 = .ok (.isub, 1) := by decide +kernel
theorem dX0_add_47 : decode cX0_add 47 = .ok (.ireturn, 1) := by decide +kernel
theorem dX0_guestsLeft_0 : decode cX0_guestsLeft 0 = .ok (.iconst 0, 1) := by decide +kernel
theorem dX0_guestsLeft_1 : decode cX0_guestsLeft 1 = .ok (.istore_n 3, 1) := by decide +kernel
theorem dX0_guestsLeft_2 : decode cX0_guestsLeft 2 = .ok (.iconst 0, 1) := by decide +kernel
theorem dX0_guestsLeft_3 : decode cX0_guestsLeft 3 = .ok (.istore 4, 2) := by decide +kernel
theorem dX0_guestsLeft_5 : decode cX0_guestsLeft 5 = .ok (.iload 4, 2) := by decide +kernel
theorem dX0_guestsLeft_7 : decode cX0_guestsLeft 7 = .ok (.aload_n 1, 1) := by decide +kernel
theorem dX0_guestsLeft_8 : decode cX0_guestsLeft 8 = .ok (.getfield 23, 3) := by decide +kernel
theorem dX0_guestsLeft_11 : decode cX0_guestsLeft 11 = .ok (.if_icmp .ge 27, 3) := by decide +kernel
theorem dX0_guestsLeft_14 : decode cX0_guestsLeft 14 = .ok (.aload_n 0, 1) := by decide +kernel
theorem dX0_guestsLeft_15 : decode cX0_guestsLeft 15 = .ok (.aload_n 1, 1) := by decide +kernel
theorem dX0_guestsLeft_16 : decode cX0_guestsLeft 16 = .ok (.iload 4, 2) := by decide +kernel
theorem dX0_guestsLeft_18 : decode cX0_guestsLeft 18 = .ok (.iload_n 2, 1) := by decide +kernel
theorem dX0_guestsLeft_19 : decode cX0_guestsLeft 19 = .ok (.invokevirtual 28, 3) := by decide +kernel
theorem dX0_guestsLeft_22 : decode cX0_guestsLeft 22 = .ok (.ifCond .eq 10, 3) := by decide +kernel
theorem dX0_guestsLeft_25 : decode cX0_guestsLeft 25 = .ok (.iload_n 3, 1) := by decide +kernel
theorem dX0_guestsLeft_26 : decode cX0_guestsLeft 26 = .ok (.iconst 1, 1) := by decide +kernel
theorem dX0_guestsLeft_27 : decode cX0_guestsLeft 27 = .ok (.iload 4, 2) := by decide +kernel
theorem dX0_guestsLeft_29 : decode cX0_guestsLeft 29 = .ok (.ishl, 1) := by decide +kernel
theorem dX0_guestsLeft_30 : decode cX0_guestsLeft 30 = .ok (.ior, 1) := by decide +kernel
theorem dX0_guestsLeft_31 : decode cX0_guestsLeft 31 = .ok (.istore_n 3, 1) := by decide +kernel
theorem dX0_guestsLeft_32 : decode cX0_guestsLeft 32 = .ok (.iinc 4 1, 3) := by decide +kernel
theorem dX0_guestsLeft_35 : decode cX0_guestsLeft 35 = .ok (.goto (-30), 3) := by decide +kernel
theorem dX0_guestsLeft_38 : decode cX0_guestsLeft 38 = .ok (.iload_n 3, 1) := by decide +kernel
theorem dX0_guestsLeft_39 : decode cX0_guestsLeft 39 = .ok (.ireturn, 1) := by decide +kernel
theorem dX0_agrees_0 : decode cX0_agrees 0 = .ok (.iconst 0, 1) := by decide +kernel
theorem dX0_agrees_1 : decode cX0_agrees 1 = .ok (.istore 4, 2) := by decide +kernel
theorem dX0_agrees_3 : decode cX0_agrees 3 = .ok (.iload 4, 2) := by decide +kernel
theorem dX0_agrees_5 : decode cX0_agrees 5 = .ok (.iload_n 3, 1) := by decide +kernel
theorem dX0_agrees_6 : decode cX0_agrees 6 = .ok (.if_icmp .ge 40, 3) := by decide +kernel
theorem dX0_agrees_9 : decode cX0_agrees 9 = .ok (.iload 4, 2) := by decide +kernel
theorem dX0_agrees_11 : decode cX0_agrees 11 = .ok (.bipush 20, 2) := by decide +kernel
theorem dX0_agrees_13 : decode cX0_agrees 13 = .ok (.if_icmp .ge 33, 3) := by decide +kernel
theorem dX0_agrees_16 : decode cX0_agrees 16 = .ok (.aload_n 1, 1) := by decide +kernel
theorem dX0_agrees_17 : decode cX0_agrees 17 = .ok (.iload_n 2, 1) := by decide +kernel
theorem dX0_agrees_18 : decode cX0_agrees 18 = .ok (.aload_n 0, 1) := by decide +kernel
theorem dX0_agrees_19 : decode cX0_agrees 19 = .ok (.getfield 15, 3) := by decide +kernel
theorem dX0_agrees_22 : decode cX0_agrees 22 = .ok (.iload 4, 2) := by decide +kernel
theorem dX0_agrees_24 : decode cX0_agrees 24 = .ok (.iaload, 1) := by decide +kernel
theorem dX0_agrees_25 : decode cX0_agrees 25 = .ok (.invokevirtual 32, 3) := by decide +kernel
theorem dX0_agrees_28 : decode cX0_agrees 28 = .ok (.aload_n 0, 1) := by decide +kernel
theorem dX0_agrees_29 : decode cX0_agrees 29 = .ok (.getfield 19, 3) := by decide +kernel
theorem dX0_agrees_32 : decode cX0_agrees 32 = .ok (.iload 4, 2) := by decide +kernel
theorem dX0_agrees_34 : decode cX0_agrees 34 = .ok (.baload, 1) := by decide +kernel
theorem dX0_agrees_35 : decode cX0_agrees 35 = .ok (.if_icmp .eq 5, 3) := by decide +kernel
theorem dX0_agrees_38 : decode cX0_agrees 38 = .ok (.iconst 0, 1) := by decide +kernel
theorem dX0_agrees_39 : decode cX0_agrees 39 = .ok (.ireturn, 1) := by decide +kernel
theorem dX0_agrees_40 : decode cX0_agrees 40 = .ok (.iinc 4 1, 3) := by decide +kernel
theorem dX0_agrees_43 : decode cX0_agrees 43 = .ok (.goto (-40), 3) := by decide +kernel
theorem dX0_agrees_46 : decode cX0_agrees 46 = .ok (.iconst 1, 1) := by decide +kernel
theorem dX0_agrees_47 : decode cX0_agrees 47 = .ok (.ireturn, 1) := by decide +kernel
theorem dX0_hourToLook_0 : decode cX0_hourToLook 0 = .ok (.iconst 0, 1) := by decide +kernel
theorem dX0_hourToLook_1 : decode cX0_hourToLook 1 = .ok (.istore_n 3, 1) := by decide +kernel
theorem dX0_hourToLook_2 : decode cX0_hourToLook 2 = .ok (.bipush 8, 2) := by decide +kernel
theorem dX0_hourToLook_4 : decode cX0_hourToLook 4 = .ok (.istore 4, 2) := by decide +kernel
theorem dX0_hourToLook_6 : decode cX0_hourToLook 6 = .ok (.iconst 0, 1) := by decide +kernel
theorem dX0_hourToLook_7 : decode cX0_hourToLook 7 = .ok (.istore 5, 2) := by decide +kernel
theorem dX0_hourToLook_9 : decode cX0_hourToLook 9 = .ok (.iload 5, 2) := by decide +kernel
theorem dX0_hourToLook_11 : decode cX0_hourToLook 11 = .ok (.bipush 24, 2) := by decide +kernel
theorem dX0_hourToLook_13 : decode cX0_hourToLook 13 = .ok (.if_icmp .ge 46, 3) := by decide +kernel
theorem dX0_hourToLook_16 : decode cX0_hourToLook 16 = .ok (.aload_n 1, 1) := by decide +kernel
theorem dX0_hourToLook_17 : decode cX0_hourToLook 17 = .ok (.iload_n 2, 1) := by decide +kernel
theorem dX0_hourToLook_18 : decode cX0_hourToLook 18 = .ok (.iload 5, 2) := by decide +kernel
theorem dX0_hourToLook_20 : decode cX0_hourToLook 20 = .ok (.invokestatic 36, 3) := by decide +kernel
theorem dX0_hourToLook_23 : decode cX0_hourToLook 23 = .ok (.istore 6, 2) := by decide +kernel
theorem dX0_hourToLook_25 : decode cX0_hourToLook 25 = .ok (.iload 6, 2) := by decide +kernel
theorem dX0_hourToLook_27 : decode cX0_hourToLook 27 = .ok (.iload_n 2, 1) := by decide +kernel
theorem dX0_hourToLook_28 : decode cX0_hourToLook 28 = .ok (.invokestatic 40, 3) := by decide +kernel
theorem dX0_hourToLook_31 : decode cX0_hourToLook 31 = .ok (.iload 6, 2) := by decide +kernel
theorem dX0_hourToLook_33 : decode cX0_hourToLook 33 = .ok (.isub, 1) := by decide +kernel
theorem dX0_hourToLook_34 : decode cX0_hourToLook 34 = .ok (.invokestatic 46, 3) := by decide +kernel
theorem dX0_hourToLook_37 : decode cX0_hourToLook 37 = .ok (.istore 7, 2) := by decide +kernel
theorem dX0_hourToLook_39 : decode cX0_hourToLook 39 = .ok (.iload 7, 2) := by decide +kernel
theorem dX0_hourToLook_41 : decode cX0_hourToLook 41 = .ok (.iload 4, 2) := by decide +kernel
theorem dX0_hourToLook_43 : decode cX0_hourToLook 43 = .ok (.if_icmp .ge 10, 3) := by decide +kernel
theorem dX0_hourToLook_46 : decode cX0_hourToLook 46 = .ok (.iload 7, 2) := by decide +kernel
theorem dX0_hourToLook_48 : decode cX0_hourToLook 48 = .ok (.istore 4, 2) := by decide +kernel
theorem dX0_hourToLook_50 : decode cX0_hourToLook 50 = .ok (.iload 5, 2) := by decide +kernel
theorem dX0_hourToLook_52 : decode cX0_hourToLook 52 = .ok (.istore_n 3, 1) := by decide +kernel
theorem dX0_hourToLook_53 : decode cX0_hourToLook 53 = .ok (.iinc 5 1, 3) := by decide +kernel
theorem dX0_hourToLook_56 : decode cX0_hourToLook 56 = .ok (.goto (-47), 3) := by decide +kernel
theorem dX0_hourToLook_59 : decode cX0_hourToLook 59 = .ok (.iload_n 3, 1) := by decide +kernel
theorem dX0_hourToLook_60 : decode cX0_hourToLook 60 = .ok (.ireturn, 1) := by decide +kernel
theorem dX0_seenAt_0 : decode cX0_seenAt 0 = .ok (.iconst 0, 1) := by decide +kernel
theorem dX0_seenAt_1 : decode cX0_seenAt 1 = .ok (.istore_n 3, 1) := by decide +kernel
theorem dX0_seenAt_2 : decode cX0_seenAt 2 = .ok (.iconst 0, 1) := by decide +kernel
theorem dX0_seenAt_3 : decode cX0_seenAt 3 = .ok (.istore 4, 2) := by decide +kernel
theorem dX0_seenAt_5 : decode cX0_seenAt 5 = .ok (.iload 4, 2) := by decide +kernel
theorem dX0_seenAt_7 : decode cX0_seenAt 7 = .ok (.aload_n 0, 1) := by decide +kernel
theorem dX0_seenAt_8 : decode cX0_seenAt 8 = .ok (.getfield 23, 3) := by decide +kernel
theorem dX0_seenAt_11 : decode cX0_seenAt 11 = .ok (.if_icmp .ge 32, 3) := by decide +kernel
theorem dX0_seenAt_14 : decode cX0_seenAt 14 = .ok (.iload_n 1, 1) := by decide +kernel
theorem dX0_seenAt_15 : decode cX0_seenAt 15 = .ok (.iload 4, 2) := by decide +kernel
theorem dX0_seenAt_17 : decode cX0_seenAt 17 = .ok (.ishr, 1) := by decide +kernel
theorem dX0_seenAt_18 : decode cX0_seenAt 18 = .ok (.iconst 1, 1) := by decide +kernel
theorem dX0_seenAt_19 : decode cX0_seenAt 19 = .ok (.iand, 1) := by decide +kernel
theorem dX0_seenAt_20 : decode cX0_seenAt 20 = .ok (.iconst 1, 1) := by decide +kernel
theorem dX0_seenAt_21 : decode cX0_seenAt 21 = .ok (.if_icmp .ne 16, 3) := by decide +kernel
theorem dX0_seenAt_24 : decode cX0_seenAt 24 = .ok (.aload_n 0, 1) := by decide +kernel
theorem dX0_seenAt_25 : decode cX0_seenAt 25 = .ok (.iload 4, 2) := by decide +kernel
theorem dX0_seenAt_27 : decode cX0_seenAt 27 = .ok (.iload_n 2, 1) := by decide +kernel
theorem dX0_seenAt_28 : decode cX0_seenAt 28 = .ok (.invokevirtual 32, 3) := by decide +kernel
theorem dX0_seenAt_31 : decode cX0_seenAt 31 = .ok (.ifCond .eq 6, 3) := by decide +kernel
theorem dX0_seenAt_34 : decode cX0_seenAt 34 = .ok (.iinc 3 1, 3) := by decide +kernel
theorem dX0_seenAt_37 : decode cX0_seenAt 37 = .ok (.iinc 4 1, 3) := by decide +kernel
theorem dX0_seenAt_40 : decode cX0_seenAt 40 = .ok (.goto (-35), 3) := by decide +kernel
theorem dX0_seenAt_43 : decode cX0_seenAt 43 = .ok (.iload_n 3, 1) := by decide +kernel
theorem dX0_seenAt_44 : decode cX0_seenAt 44 = .ok (.ireturn, 1) := by decide +kernel
theorem dX1_init_0 : decode cX1_init 0 = .ok (.aload_n 0, 1) := by decide +kernel
theorem dX1_init_1 : decode cX1_init 1 = .ok (.invokespecial 3, 3) := by decide +kernel
theorem dX1_init_4 : decode cX1_init 4 = .ok (.aload_n 0, 1) := by decide +kernel
theorem dX1_init_5 : decode cX1_init 5 = .ok (.bipush 9, 2) := by decide +kernel
theorem dX1_init_7 : decode cX1_init 7 = .ok (.newarray .int, 2) := by decide +kernel
theorem dX1_init_9 : decode cX1_init 9 = .ok (.putfield 9, 3) := by decide +kernel
theorem dX1_init_12 : decode cX1_init 12 = .ok (.aload_n 0, 1) := by decide +kernel
theorem dX1_init_13 : decode cX1_init 13 = .ok (.bipush 16, 2) := by decide +kernel
theorem dX1_init_15 : decode cX1_init 15 = .ok (.newarray .int, 2) := by decide +kernel
theorem dX1_init_17 : decode cX1_init 17 = .ok (.putfield 17, 3) := by decide +kernel
theorem dX1_init_20 : decode cX1_init 20 = .ok (.return_, 1) := by decide +kernel
theorem dX1_ofGuestNow_0 : decode cX1_ofGuestNow 0 = .ok (.aload_n 3, 1) := by decide +kernel
theorem dX1_ofGuestNow_1 : decode cX1_ofGuestNow 1 = .ok (.iload 4, 2) := by decide +kernel
theorem dX1_ofGuestNow_3 : decode cX1_ofGuestNow 3 = .ok (.invokevirtual 20, 3) := by decide +kernel
theorem dX1_ofGuestNow_6 : decode cX1_ofGuestNow 6 = .ok (.istore 5, 2) := by decide +kernel
theorem dX1_ofGuestNow_8 : decode cX1_ofGuestNow 8 = .ok (.iload 5, 2) := by decide +kernel
theorem dX1_ofGuestNow_10 : decode cX1_ofGuestNow 10 = .ok (.bipush (-2), 2) := by decide +kernel
theorem dX1_ofGuestNow_12 : decode cX1_ofGuestNow 12 = .ok (.if_icmp .ne 5, 3) := by decide +kernel
theorem dX1_ofGuestNow_15 : decode cX1_ofGuestNow 15 = .ok (.iconst 0, 1) := by decide +kernel
theorem dX1_ofGuestNow_16 : decode cX1_ofGuestNow 16 = .ok (.ireturn, 1) := by decide +kernel
theorem dX1_ofGuestNow_17 : decode cX1_ofGuestNow 17 = .ok (.aload_n 0, 1) := by decide +kernel
theorem dX1_ofGuestNow_18 : decode cX1_ofGuestNow 18 = .ok (.iload_n 1, 1) := by decide +kernel
theorem dX1_ofGuestNow_19 : decode cX1_ofGuestNow 19 = .ok (.aload_n 2, 1) := by decide +kernel
theorem dX1_ofGuestNow_20 : decode cX1_ofGuestNow 20 = .ok (.aload_n 3, 1) := by decide +kernel
theorem dX1_ofGuestNow_21 : decode cX1_ofGuestNow 21 = .ok (.iload 4, 2) := by decide +kernel
theorem dX1_ofGuestNow_23 : decode cX1_ofGuestNow 23 = .ok (.iload 5, 2) := by decide +kernel
theorem dX1_ofGuestNow_25 : decode cX1_ofGuestNow 25 = .ok (.aload_n 3, 1) := by decide +kernel
theorem dX1_ofGuestNow_26 : decode cX1_ofGuestNow 26 = .ok (.getfield 26, 3) := by decide +kernel
theorem dX1_ofGuestNow_29 : decode cX1_ofGuestNow 29 = .ok (.iload 5, 2) := by decide +kernel
theorem dX1_ofGuestNow_31 : decode cX1_ofGuestNow 31 = .ok (.iaload, 1) := by decide +kernel
theorem dX1_ofGuestNow_32 : decode cX1_ofGuestNow 32 = .ok (.invokestatic 29, 3) := by decide +kernel
theorem dX1_ofGuestNow_35 : decode cX1_ofGuestNow 35 = .ok (.iconst 1, 1) := by decide +kernel
theorem dX1_ofGuestNow_36 : decode cX1_ofGuestNow 36 = .ok (.isub, 1) := by decide +kernel
theorem dX1_ofGuestNow_37 : decode cX1_ofGuestNow 37 = .ok (.invokevirtual 34, 3) := by decide +kernel
theorem dX1_ofGuestNow_40 : decode cX1_ofGuestNow 40 = .ok (.ireturn, 1) := by decide +kernel
theorem dX1_ofGuest_0 : decode cX1_ofGuest 0 = .ok (.aload_n 0, 1) := by decide +kernel
theorem dX1_ofGuest_1 : decode cX1_ofGuest 1 = .ok (.aload_n 2, 1) := by decide +kernel
theorem dX1_ofGuest_2 : decode cX1_ofGuest 2 = .ok (.aload_n 3, 1) := by decide +kernel
theorem dX1_ofGuest_3 : decode cX1_ofGuest 3 = .ok (.iload 5, 2) := by decide +kernel
theorem dX1_ofGuest_5 : decode cX1_ofGuest 5 = .ok (.invokevirtual 38, 3) := by decide +kernel
theorem dX1_ofGuest_8 : decode cX1_ofGuest 8 = .ok (.aload_n 0, 1) := by decide +kernel
theorem dX1_ofGuest_9 : decode cX1_ofGuest 9 = .ok (.getfield 9, 3) := by decide +kernel
theorem dX1_ofGuest_12 : decode cX1_ofGuest 12 = .ok (.iconst 0, 1) := by decide +kernel
theorem dX1_ofGuest_13 : decode cX1_ofGuest 13 = .ok (.aload_n 2, 1) := by decide +kernel
theorem dX1_ofGuest_14 : decode cX1_ofGuest 14 = .ok (.getfield 42, 3) := by decide +kernel
theorem dX1_ofGuest_17 : decode cX1_ofGuest 17 = .ok (.iload 4, 2) := by decide +kernel
theorem dX1_ofGuest_19 : decode cX1_ofGuest 19 = .ok (.iaload, 1) := by decide +kernel
theorem dX1_ofGuest_20 : decode cX1_ofGuest 20 = .ok (.iastore, 1) := by decide +kernel
theorem dX1_ofGuest_21 : decode cX1_ofGuest 21 = .ok (.aload_n 0, 1) := by decide +kernel
theorem dX1_ofGuest_22 : decode cX1_ofGuest 22 = .ok (.getfield 9, 3) := by decide +kernel
theorem dX1_ofGuest_25 : decode cX1_ofGuest 25 = .ok (.iconst 1, 1) := by decide +kernel
theorem dX1_ofGuest_26 : decode cX1_ofGuest 26 = .ok (.aload_n 2, 1) := by decide +kernel
theorem dX1_ofGuest_27 : decode cX1_ofGuest 27 = .ok (.getfield 47, 3) := by decide +kernel
theorem dX1_ofGuest_30 : decode cX1_ofGuest 30 = .ok (.iload 4, 2) := by decide +kernel
theorem dX1_ofGuest_32 : decode cX1_ofGuest 32 = .ok (.iaload, 1) := by decide +kernel
theorem dX1_ofGuest_33 : decode cX1_ofGuest 33 = .ok (.iastore, 1) := by decide +kernel
theorem dX1_ofGuest_34 : decode cX1_ofGuest 34 = .ok (.aload_n 0, 1) := by decide +kernel
theorem dX1_ofGuest_35 : decode cX1_ofGuest 35 = .ok (.getfield 9, 3) := by decide +kernel
theorem dX1_ofGuest_38 : decode cX1_ofGuest 38 = .ok (.iconst 2, 1) := by decide +kernel
theorem dX1_ofGuest_39 : decode cX1_ofGuest 39 = .ok (.aload_n 2, 1) := by decide +kernel
theorem dX1_ofGuest_40 : decode cX1_ofGuest 40 = .ok (.getfield 50, 3) := by decide +kernel
theorem dX1_ofGuest_43 : decode cX1_ofGuest 43 = .ok (.iload 4, 2) := by decide +kernel
theorem dX1_ofGuest_45 : decode cX1_ofGuest 45 = .ok (.iaload, 1) := by decide +kernel
theorem dX1_ofGuest_46 : decode cX1_ofGuest 46 = .ok (.iastore, 1) := by decide +kernel
theorem dX1_ofGuest_47 : decode cX1_ofGuest 47 = .ok (.aload_n 0, 1) := by decide +kernel
theorem dX1_ofGuest_48 : decode cX1_ofGuest 48 = .ok (.getfield 9, 3) := by decide +kernel
theorem dX1_ofGuest_51 : decode cX1_ofGuest 51 = .ok (.iconst 3, 1) := by decide +kernel
theorem dX1_ofGuest_52 : decode cX1_ofGuest 52 = .ok (.aload_n 3, 1) := by decide +kernel
theorem dX1_ofGuest_53 : decode cX1_ofGuest 53 = .ok (.getfield 53, 3) := by decide +kernel
theorem dX1_ofGuest_56 : decode cX1_ofGuest 56 = .ok (.iload 4, 2) := by decide +kernel
theorem dX1_ofGuest_58 : decode cX1_ofGuest 58 = .ok (.iaload, 1) := by decide +kernel
theorem dX1_ofGuest_59 : decode cX1_ofGuest 59 = .ok (.iastore, 1) := by decide +kernel
theorem dX1_ofGuest_60 : decode cX1_ofGuest 60 = .ok (.aload_n 0, 1) := by decide +kernel
theorem dX1_ofGuest_61 : decode cX1_ofGuest 61 = .ok (.getfield 9, 3) := by decide +kernel
theorem dX1_ofGuest_64 : decode cX1_ofGuest 64 = .ok (.bipush 7, 2) := by decide +kernel
theorem dX1_ofGuest_66 : decode cX1_ofGuest 66 = .ok (.iload 4, 2) := by decide +kernel
theorem dX1_ofGuest_68 : decode cX1_ofGuest 68 = .ok (.iastore, 1) := by decide +kernel
theorem dX1_ofGuest_69 : decode cX1_ofGuest 69 = .ok (.aload_n 0, 1) := by decide +kernel
theorem dX1_ofGuest_70 : decode cX1_ofGuest 70 = .ok (.getfield 9, 3) := by decide +kernel
theorem dX1_ofGuest_73 : decode cX1_ofGuest 73 = .ok (.bipush 8, 2) := by decide +kernel
theorem dX1_ofGuest_75 : decode cX1_ofGuest 75 = .ok (.iload 6, 2) := by decide +kernel
theorem dX1_ofGuest_77 : decode cX1_ofGuest 77 = .ok (.iastore, 1) := by decide +kernel
theorem dX1_ofGuest_78 : decode cX1_ofGuest 78 = .ok (.aload_n 0, 1) := by decide +kernel
theorem dX1_ofGuest_79 : decode cX1_ofGuest 79 = .ok (.aload_n 2, 1) := by decide +kernel
theorem dX1_ofGuest_80 : decode cX1_ofGuest 80 = .ok (.getfield 56, 3) := by decide +kernel
theorem dX1_ofGuest_83 : decode cX1_ofGuest 83 = .ok (.iload_n 1, 1) := by decide +kernel
theorem dX1_ofGuest_84 : decode cX1_ofGuest 84 = .ok (.invokevirtual 60, 3) := by decide +kernel
theorem dX1_ofGuest_87 : decode cX1_ofGuest 87 = .ok (.ireturn, 1) := by decide +kernel
theorem dX1_ofSunday_0 : decode cX1_ofSunday 0 = .ok (.aload_n 0, 1) := by decide +kernel
theorem dX1_ofSunday_1 : decode cX1_ofSunday 1 = .ok (.aload_n 2, 1) := by decide +kernel
theorem dX1_ofSunday_2 : decode cX1_ofSunday 2 = .ok (.aload_n 3, 1) := by decide +kernel
theorem dX1_ofSunday_3 : decode cX1_ofSunday 3 = .ok (.iload 4, 2) := by decide +kernel
theorem dX1_ofSunday_5 : decode cX1_ofSunday 5 = .ok (.invokevirtual 38, 3) := by decide +kernel
theorem dX1_ofSunday_8 : decode cX1_ofSunday 8 = .ok (.aload_n 0, 1) := by decide +kernel
theorem dX1_ofSunday_9 : decode cX1_ofSunday 9 = .ok (.getfield 9, 3) := by decide +kernel
theorem dX1_ofSunday_12 : decode cX1_ofSunday 12 = .ok (.iconst 0, 1) := by decide +kernel
theorem dX1_ofSunday_13 : decode cX1_ofSunday 13 = .ok (.iconst 0, 1) := by decide +kernel
theorem dX1_ofSunday_14 : decode cX1_ofSunday 14 = .ok (.iastore, 1) := by decide +kernel
theorem dX1_ofSunday_15 : decode cX1_ofSunday 15 = .ok (.aload_n 0, 1) := by decide +kernel
theorem dX1_ofSunday_16 : decode cX1_ofSunday 16 = .ok (.getfield 9, 3) := by decide +kernel
theorem dX1_ofSunday_19 : decode cX1_ofSunday 19 = .ok (.iconst 1, 1) := by decide +kernel
theorem dX1_ofSunday_20 : decode cX1_ofSunday 20 = .ok (.aload_n 2, 1) := by decide +kernel
theorem dX1_ofSunday_21 : decode cX1_ofSunday 21 = .ok (.aload_n 3, 1) := by decide +kernel
theorem dX1_ofSunday_22 : decode cX1_ofSunday 22 = .ok (.getfield 26, 3) := by decide +kernel
theorem dX1_ofSunday_25 : decode cX1_ofSunday 25 = .ok (.iload 4, 2) := by decide +kernel
theorem dX1_ofSunday_27 : decode cX1_ofSunday 27 = .ok (.iaload, 1) := by decide +kernel
theorem dX1_ofSunday_28 : decode cX1_ofSunday 28 = .ok (.invokevirtual 64, 3) := by decide +kernel
theorem dX1_ofSunday_31 : decode cX1_ofSunday 31 = .ok (.iastore, 1) := by decide +kernel
theorem dX1_ofSunday_32 : decode cX1_ofSunday 32 = .ok (.aload_n 0, 1) := by decide +kernel
theorem dX1_ofSunday_33 : decode cX1_ofSunday 33 = .ok (.getfield 9, 3) := by decide +kernel
theorem dX1_ofSunday_36 : decode cX1_ofSunday 36 = .ok (.iconst 2, 1) := by decide +kernel
theorem dX1_ofSunday_37 : decode cX1_ofSunday 37 = .ok (.iconst 0, 1) := by decide +kernel
theorem dX1_ofSunday_38 : decode cX1_ofSunday 38 = .ok (.iastore, 1) := by decide +kernel
theorem dX1_ofSunday_39 : decode cX1_ofSunday 39 = .ok (.aload_n 0, 1) := by decide +kernel
theorem dX1_ofSunday_40 : decode cX1_ofSunday 40 = .ok (.getfield 9, 3) := by decide +kernel
theorem dX1_ofSunday_43 : decode cX1_ofSunday 43 = .ok (.iconst 3, 1) := by decide +kernel
theorem dX1_ofSunday_44 : decode cX1_ofSunday 44 = .ok (.iconst 0, 1) := by decide +kernel
theorem dX1_ofSunday_45 : decode cX1_ofSunday 45 = .ok (.iastore, 1) := by decide +kernel
theorem dX1_ofSunday_46 : decode cX1_ofSunday 46 = .ok (.aload_n 0, 1) := by decide +kernel
theorem dX1_ofSunday_47 : decode cX1_ofSunday 47 = .ok (.getfield 9, 3) := by decide +kernel
theorem dX1_ofSunday_50 : decode cX1_ofSunday 50 = .ok (.bipush 7, 2) := by decide +kernel
theorem dX1_ofSunday_52 : decode cX1_ofSunday 52 = .ok (.iload 4, 2) := by decide +kernel
theorem dX1_ofSunday_54 : decode cX1_ofSunday 54 = .ok (.iastore, 1) := by decide +kernel
theorem dX1_ofSunday_55 : decode cX1_ofSunday 55 = .ok (.aload_n 0, 1) := by decide +kernel
theorem dX1_ofSunday_56 : decode cX1_ofSunday 56 = .ok (.getfield 9, 3) := by decide +kernel
theorem dX1_ofSunday_59 : decode cX1_ofSunday 59 = .ok (.bipush 8, 2) := by decide +kernel
theorem dX1_ofSunday_61 : decode cX1_ofSunday 61 = .ok (.aload_n 3, 1) := by decide +kernel
theorem dX1_ofSunday_62 : decode cX1_ofSunday 62 = .ok (.getfield 26, 3) := by decide +kernel
theorem dX1_ofSunday_65 : decode cX1_ofSunday 65 = .ok (.iload 4, 2) := by decide +kernel
theorem dX1_ofSunday_67 : decode cX1_ofSunday 67 = .ok (.iaload, 1) := by decide +kernel
theorem dX1_ofSunday_68 : decode cX1_ofSunday 68 = .ok (.invokestatic 29, 3) := by decide +kernel
theorem dX1_ofSunday_71 : decode cX1_ofSunday 71 = .ok (.iastore, 1) := by decide +kernel
theorem dX1_ofSunday_72 : decode cX1_ofSunday 72 = .ok (.aload_n 0, 1) := by decide +kernel
theorem dX1_ofSunday_73 : decode cX1_ofSunday 73 = .ok (.aload_n 2, 1) := by decide +kernel
theorem dX1_ofSunday_74 : decode cX1_ofSunday 74 = .ok (.getfield 56, 3) := by decide +kernel
theorem dX1_ofSunday_77 : decode cX1_ofSunday 77 = .ok (.iload_n 1, 1) := by decide +kernel
theorem dX1_ofSunday_78 : decode cX1_ofSunday 78 = .ok (.invokevirtual 60, 3) := by decide +kernel
theorem dX1_ofSunday_81 : decode cX1_ofSunday 81 = .ok (.ireturn, 1) := by decide +kernel
theorem dX1_setSunday_0 : decode cX1_setSunday 0 = .ok (.aload_n 0, 1) := by decide +kernel
theorem dX1_setSunday_1 : decode cX1_setSunday 1 = .ok (.getfield 9, 3) := by decide +kernel
theorem dX1_setSunday_4 : decode cX1_setSunday 4 = .ok (.iconst 4, 1) := by decide +kernel
theorem dX1_setSunday_5 : decode cX1_setSunday 5 = .ok (.aload_n 2, 1) := by decide +kernel
theorem dX1_setSunday_6 : decode cX1_setSunday 6 = .ok (.getfield 67, 3) := by decide +kernel
theorem dX1_setSunday_9 : decode cX1_setSunday 9 = .ok (.iload_n 3, 1) := by decide +kernel
theorem dX1_setSunday_10 : decode cX1_setSunday 10 = .ok (.iaload, 1) := by decide +kernel
theorem dX1_setSunday_11 : decode cX1_setSunday 11 = .ok (.iastore, 1) := by decide +kernel
theorem dX1_setSunday_12 : decode cX1_setSunday 12 = .ok (.aload_n 0, 1) := by decide +kernel
theorem dX1_setSunday_13 : decode cX1_setSunday 13 = .ok (.getfield 9, 3) := by decide +kernel
theorem dX1_setSunday_16 : decode cX1_setSunday 16 = .ok (.iconst 5, 1) := by decide +kernel
theorem dX1_setSunday_17 : decode cX1_setSunday 17 = .ok (.aload_n 1, 1) := by decide +kernel
theorem dX1_setSunday_18 : decode cX1_setSunday 18 = .ok (.getfield 70, 3) := by decide +kernel
theorem dX1_setSunday_21 : decode cX1_setSunday 21 = .ok (.iload_n 3, 1) := by decide +kernel
theorem dX1_setSunday_22 : decode cX1_setSunday 22 = .ok (.iaload, 1) := by decide +kernel
theorem dX1_setSunday_23 : decode cX1_setSunday 23 = .ok (.iastore, 1) := by decide +kernel
theorem dX1_setSunday_24 : decode cX1_setSunday 24 = .ok (.aload_n 0, 1) := by decide +kernel
theorem dX1_setSunday_25 : decode cX1_setSunday 25 = .ok (.getfield 9, 3) := by decide +kernel
theorem dX1_setSunday_28 : decode cX1_setSunday 28 = .ok (.bipush 6, 2) := by decide +kernel
theorem dX1_setSunday_30 : decode cX1_setSunday 30 = .ok (.aload_n 2, 1) := by decide +kernel
theorem dX1_setSunday_31 : decode cX1_setSunday 31 = .ok (.getfield 73, 3) := by decide +kernel
theorem dX1_setSunday_34 : decode cX1_setSunday 34 = .ok (.iastore, 1) := by decide +kernel
theorem dX1_setSunday_35 : decode cX1_setSunday 35 = .ok (.return_, 1) := by decide +kernel
theorem dX1_answerHeld_0 : decode cX1_answerHeld 0 = .ok (.iconst 0, 1) := by decide +kernel
theorem dX1_answerHeld_1 : decode cX1_answerHeld 1 = .ok (.bipush 99, 2) := by decide +kernel
theorem dX1_answerHeld_3 : decode cX1_answerHeld 3 = .ok (.aload_n 1, 1) := by decide +kernel
theorem dX1_answerHeld_4 : decode cX1_answerHeld 4 = .ok (.iload_n 2, 1) := by decide +kernel
theorem dX1_answerHeld_5 : decode cX1_answerHeld 5 = .ok (.aload_n 0, 1) := by decide +kernel
theorem dX1_answerHeld_6 : decode cX1_answerHeld 6 = .ok (.getfield 9, 3) := by decide +kernel
theorem dX1_answerHeld_9 : decode cX1_answerHeld 9 = .ok (.aload_n 0, 1) := by decide +kernel
theorem dX1_answerHeld_10 : decode cX1_answerHeld 10 = .ok (.getfield 17, 3) := by decide +kernel
theorem dX1_answerHeld_13 : decode cX1_answerHeld 13 = .ok (.invokevirtual 77, 3) := by decide +kernel
theorem dX1_answerHeld_16 : decode cX1_answerHeld 16 = .ok (.invokestatic 81, 3) := by decide +kernel
theorem dX1_answerHeld_19 : decode cX1_answerHeld 19 = .ok (.invokestatic 87, 3) := by decide +kernel
theorem dX1_answerHeld_22 : decode cX1_answerHeld 22 = .ok (.ireturn, 1) := by decide +kernel
theorem dX1_passWeek_0 : decode cX1_passWeek 0 = .ok (.aload_n 0, 1) := by decide +kernel
theorem dX1_passWeek_1 : decode cX1_passWeek 1 = .ok (.aload_n 1, 1) := by decide +kernel
theorem dX1_passWeek_2 : decode cX1_passWeek 2 = .ok (.aload_n 2, 1) := by decide +kernel
theorem dX1_passWeek_3 : decode cX1_passWeek 3 = .ok (.invokevirtual 90, 3) := by decide +kernel
theorem dX1_passWeek_6 : decode cX1_passWeek 6 = .ok (.aload_n 0, 1) := by decide +kernel
theorem dX1_passWeek_7 : decode cX1_passWeek 7 = .ok (.aload_n 1, 1) := by decide +kernel
theorem dX1_passWeek_8 : decode cX1_passWeek 8 = .ok (.aload_n 2, 1) := by decide +kernel
theorem dX1_passWeek_9 : decode cX1_passWeek 9 = .ok (.invokevirtual 94, 3) := by decide +kernel
theorem dX1_passWeek_12 : decode cX1_passWeek 12 = .ok (.aload_n 2, 1) := by decide +kernel
theorem dX1_passWeek_13 : decode cX1_passWeek 13 = .ok (.dup, 1) := by decide +kernel
theorem dX1_passWeek_14 : decode cX1_passWeek 14 = .ok (.getfield 73, 3) := by decide +kernel
theorem dX1_passWeek_17 : decode cX1_passWeek 17 = .ok (.iconst 1, 1) := by decide +kernel
theorem dX1_passWeek_18 : decode cX1_passWeek 18 = .ok (.iadd, 1) := by decide +kernel
theorem dX1_passWeek_19 : decode cX1_passWeek 19 = .ok (.putfield 73, 3) := by decide +kernel
theorem dX1_passWeek_22 : decode cX1_passWeek 22 = .ok (.return_, 1) := by decide +kernel
theorem dX1_passDeadlyWeeks_0 : decode cX1_passDeadlyWeeks 0 = .ok (.iconst 0, 1) := by decide +kernel
theorem dX1_passDeadlyWeeks_1 : decode cX1_passDeadlyWeeks 1 = .ok (.istore 5, 2) := by decide +kernel
theorem dX1_passDeadlyWeeks_3 : decode cX1_passDeadlyWeeks 3 = .ok (.iload 5, 2) := by decide +kernel
theorem dX1_passDeadlyWeeks_5 : decode cX1_passDeadlyWeeks 5 = .ok (.iload_n 3, 1) := by decide +kernel
theorem dX1_passDeadlyWeeks_6 : decode cX1_passDeadlyWeeks 6 = .ok (.if_icmp .ge 39, 3) := by decide +kernel
theorem dX1_passDeadlyWeeks_9 : decode cX1_passDeadlyWeeks 9 = .ok (.aload_n 0, 1) := by decide +kernel
theorem dX1_passDeadlyWeeks_10 : decode cX1_passDeadlyWeeks 10 = .ok (.aload_n 1, 1) := by decide +kernel
theorem dX1_passDeadlyWeeks_11 : decode cX1_passDeadlyWeeks 11 = .ok (.aload_n 2, 1) := by decide +kernel
theorem dX1_passDeadlyWeeks_12 : decode cX1_passDeadlyWeeks 12 = .ok (.invokevirtual 90, 3) := by decide +kernel
theorem dX1_passDeadlyWeeks_15 : decode cX1_passDeadlyWeeks 15 = .ok (.aload_n 0, 1) := by decide +kernel
theorem dX1_passDeadlyWeeks_16 : decode cX1_passDeadlyWeeks 16 = .ok (.aload_n 1, 1) := by decide +kernel
theorem dX1_passDeadlyWeeks_17 : decode cX1_passDeadlyWeeks 17 = .ok (.aload_n 2, 1) := by decide +kernel
theorem dX1_passDeadlyWeeks_18 : decode cX1_passDeadlyWeeks 18 = .ok (.invokevirtual 94, 3) := by decide +kernel
theorem dX1_passDeadlyWeeks_21 : decode cX1_passDeadlyWeeks 21 = .ok (.aload_n 0, 1) := by decide +kernel
theorem dX1_passDeadlyWeeks_22 : decode cX1_passDeadlyWeeks 22 = .ok (.aload_n 1, 1) := by decide +kernel
theorem dX1_passDeadlyWeeks_23 : decode cX1_passDeadlyWeeks 23 = .ok (.aload_n 2, 1) := by decide +kernel
theorem dX1_passDeadlyWeeks_24 : decode cX1_passDeadlyWeeks 24 = .ok (.iload 4, 2) := by decide +kernel
theorem dX1_passDeadlyWeeks_26 : decode cX1_passDeadlyWeeks 26 = .ok (.invokevirtual 97, 3) := by decide +kernel
theorem dX1_passDeadlyWeeks_29 : decode cX1_passDeadlyWeeks 29 = .ok (.aload_n 2, 1) := by decide +kernel
theorem dX1_passDeadlyWeeks_30 : decode cX1_passDeadlyWeeks 30 = .ok (.dup, 1) := by decide +kernel
theorem dX1_passDeadlyWeeks_31 : decode cX1_passDeadlyWeeks 31 = .ok (.getfield 73, 3) := by decide +kernel
theorem dX1_passDeadlyWeeks_34 : decode cX1_passDeadlyWeeks 34 = .ok (.iconst 1, 1) := by decide +kernel
theorem dX1_passDeadlyWeeks_35 : decode cX1_passDeadlyWeeks 35 = .ok (.iadd, 1) := by decide +kernel
theorem dX1_passDeadlyWeeks_36 : decode cX1_passDeadlyWeeks 36 = .ok (.putfield 73, 3) := by decide +kernel
theorem dX1_passDeadlyWeeks_39 : decode cX1_passDeadlyWeeks 39 = .ok (.iinc 5 1, 3) := by decide +kernel
theorem dX1_passDeadlyWeeks_42 : decode cX1_passDeadlyWeeks 42 = .ok (.goto (-39), 3) := by decide +kernel
theorem dX1_passDeadlyWeeks_45 : decode cX1_passDeadlyWeeks 45 = .ok (.return_, 1) := by decide +kernel
theorem dX1_payAndRest_0 : decode cX1_payAndRest 0 = .ok (.iconst 0, 1) := by decide +kernel
theorem dX1_payAndRest_1 : decode cX1_payAndRest 1 = .ok (.istore_n 3, 1) := by decide +kernel
theorem dX1_payAndRest_2 : decode cX1_payAndRest 2 = .ok (.iload_n 3, 1) := by decide +kernel
theorem dX1_payAndRest_3 : decode cX1_payAndRest 3 = .ok (.aload_n 1, 1) := by decide +kernel
theorem dX1_payAndRest_4 : decode cX1_payAndRest 4 = .ok (.getfield 100, 3) := by decide +kernel
theorem dX1_payAndRest_7 : decode cX1_payAndRest 7 = .ok (.if_icmp .ge 122, 3) := by decide +kernel
theorem dX1_payAndRest_10 : decode cX1_payAndRest 10 = .ok (.aload_n 2, 1) := by decide +kernel
theorem dX1_payAndRest_11 : decode cX1_payAndRest 11 = .ok (.iload_n 3, 1) := by decide +kernel
theorem dX1_payAndRest_12 : decode cX1_payAndRest 12 = .ok (.invokevirtual 20, 3) := by decide +kernel
theorem dX1_payAndRest_15 : decode cX1_payAndRest 15 = .ok (.istore 4, 2) := by decide +kernel
theorem dX1_payAndRest_17 : decode cX1_payAndRest 17 = .ok (.iload 4, 2) := by decide +kernel
theorem dX1_payAndRest_19 : decode cX1_payAndRest 19 = .ok (.bipush (-2), 2) := by decide +kernel
theorem dX1_payAndRest_21 : decode cX1_payAndRest 21 = .ok (.if_icmp .eq 76, 3) := by decide +kernel
theorem dX1_payAndRest_24 : decode cX1_payAndRest 24 = .ok (.aload_n 2, 1) := by decide +kernel
theorem dX1_payAndRest_25 : decode cX1_payAndRest 25 = .ok (.getfield 26, 3) := by decide +kernel
theorem dX1_payAndRest_28 : decode cX1_payAndRest 28 = .ok (.iload 4, 2) := by decide +kernel
theorem dX1_payAndRest_30 : decode cX1_payAndRest 30 = .ok (.iaload, 1) := by decide +kernel
theorem dX1_payAndRest_31 : decode cX1_payAndRest 31 = .ok (.invokestatic 29, 3) := by decide +kernel
theorem dX1_payAndRest_34 : decode cX1_payAndRest 34 = .ok (.iconst 1, 1) := by decide +kernel
theorem dX1_payAndRest_35 : decode cX1_payAndRest 35 = .ok (.isub, 1) := by decide +kernel
theorem dX1_payAndRest_36 : decode cX1_payAndRest 36 = .ok (.istore 5, 2) := by decide +kernel
theorem dX1_payAndRest_38 : decode cX1_payAndRest 38 = .ok (.aload_n 2, 1) := by decide +kernel
theorem dX1_payAndRest_39 : decode cX1_payAndRest 39 = .ok (.dup, 1) := by decide +kernel
theorem dX1_payAndRest_40 : decode cX1_payAndRest 40 = .ok (.getfield 103, 3) := by decide +kernel
theorem dX1_payAndRest_43 : decode cX1_payAndRest 43 = .ok (.aload_n 0, 1) := by decide +kernel
theorem dX1_payAndRest_44 : decode cX1_payAndRest 44 = .ok (.iconst 0, 1) := by decide +kernel
theorem dX1_payAndRest_45 : decode cX1_payAndRest 45 = .ok (.aload_n 1, 1) := by decide +kernel
theorem dX1_payAndRest_46 : decode cX1_payAndRest 46 = .ok (.aload_n 2, 1) := by decide +kernel
theorem dX1_payAndRest_47 : decode cX1_payAndRest 47 = .ok (.iload_n 3, 1) := by decide +kernel
theorem dX1_payAndRest_48 : decode cX1_payAndRest 48 = .ok (.iload 4, 2) := by decide +kernel
theorem dX1_payAndRest_50 : decode cX1_payAndRest 50 = .ok (.iload 5, 2) := by decide +kernel
theorem dX1_payAndRest_52 : decode cX1_payAndRest 52 = .ok (.invokevirtual 34, 3) := by decide +kernel
theorem dX1_payAndRest_55 : decode cX1_payAndRest 55 = .ok (.iadd, 1) := by decide +kernel
theorem dX1_payAndRest_56 : decode cX1_payAndRest 56 = .ok (.putfield 103, 3) := by decide +kernel
theorem dX1_payAndRest_59 : decode cX1_payAndRest 59 = .ok (.aload_n 0, 1) := by decide +kernel
theorem dX1_payAndRest_60 : decode cX1_payAndRest 60 = .ok (.iconst 1, 1) := by decide +kernel
theorem dX1_payAndRest_61 : decode cX1_payAndRest 61 = .ok (.aload_n 1, 1) := by decide +kernel
theorem dX1_payAndRest_62 : decode cX1_payAndRest 62 = .ok (.aload_n 2, 1) := by decide +kernel
theorem dX1_payAndRest_63 : decode cX1_payAndRest 63 = .ok (.iload_n 3, 1) := by decide +kernel
theorem dX1_payAndRest_64 : decode cX1_payAndRest 64 = .ok (.iload 4, 2) := by decide +kernel
theorem dX1_payAndRest_66 : decode cX1_payAndRest 66 = .ok (.iload 5, 2) := by decide +kernel
theorem dX1_payAndRest_68 : decode cX1_payAndRest 68 = .ok (.invokevirtual 34, 3) := by decide +kernel
theorem dX1_payAndRest_71 : decode cX1_payAndRest 71 = .ok (.istore 6, 2) := by decide +kernel
theorem dX1_payAndRest_73 : decode cX1_payAndRest 73 = .ok (.aload_n 2, 1) := by decide +kernel
theorem dX1_payAndRest_74 : decode cX1_payAndRest 74 = .ok (.getfield 53, 3) := by decide +kernel
theorem dX1_payAndRest_77 : decode cX1_payAndRest 77 = .ok (.iload_n 3, 1) := by decide +kernel
theorem dX1_payAndRest_78 : decode cX1_payAndRest 78 = .ok (.sipush 999, 3) := by decide +kernel
theorem dX1_payAndRest_81 : decode cX1_payAndRest 81 = .ok (.aload_n 2, 1) := by decide +kernel
theorem dX1_payAndRest_82 : decode cX1_payAndRest 82 = .ok (.getfield 53, 3) := by decide +kernel
theorem dX1_payAndRest_85 : decode cX1_payAndRest 85 = .ok (.iload_n 3, 1) := by decide +kernel
theorem dX1_payAndRest_86 : decode cX1_payAndRest 86 = .ok (.iaload, 1) := by decide +kernel
theorem dX1_payAndRest_87 : decode cX1_payAndRest 87 = .ok (.iload 6, 2) := by decide +kernel
theorem dX1_payAndRest_89 : decode cX1_payAndRest 89 = .ok (.iadd, 1) := by decide +kernel
theorem dX1_payAndRest_90 : decode cX1_payAndRest 90 = .ok (.invokestatic 81, 3) := by decide +kernel
theorem dX1_payAndRest_93 : decode cX1_payAndRest 93 = .ok (.iastore, 1) := by decide +kernel
theorem dX1_payAndRest_94 : decode cX1_payAndRest 94 = .ok (.goto 29, 3) := by decide +kernel
theorem dX1_payAndRest_97 : decode cX1_payAndRest 97 = .ok (.aload_n 2, 1) := by decide +kernel
theorem dX1_payAndRest_98 : decode cX1_payAndRest 98 = .ok (.iload_n 3, 1) := by decide +kernel
theorem dX1_payAndRest_99 : decode cX1_payAndRest 99 = .ok (.invokevirtual 106, 3) := by decide +kernel
theorem dX1_payAndRest_102 : decode cX1_payAndRest 102 = .ok (.ifCond .ne 21, 3) := by decide +kernel
theorem dX1_payAndRest_105 : decode cX1_payAndRest 105 = .ok (.aload_n 2, 1) := by decide +kernel
theorem dX1_payAndRest_106 : decode cX1_payAndRest 106 = .ok (.getfield 53, 3) := by decide +kernel
theorem dX1_payAndRest_109 : decode cX1_payAndRest 109 = .ok (.iload_n 3, 1) := by decide +kernel
theorem dX1_payAndRest_110 : decode cX1_payAndRest 110 = .ok (.iconst 0, 1) := by decide +kernel
theorem dX1_payAndRest_111 : decode cX1_payAndRest 111 = .ok (.aload_n 2, 1) := by decide +kernel
theorem dX1_payAndRest_112 : decode cX1_payAndRest 112 = .ok (.getfield 53, 3) := by decide +kernel
theorem dX1_payAndRest_115 : decode cX1_payAndRest 115 = .ok (.iload_n 3, 1) := by decide +kernel
theorem dX1_payAndRest_116 : decode cX1_payAndRest 116 = .ok (.iaload, 1) := by decide +kernel
theorem dX1_payAndRest_117 : decode cX1_payAndRest 117 = .ok (.iconst 1, 1) := by decide +kernel
theorem dX1_payAndRest_118 : decode cX1_payAndRest 118 = .ok (.isub, 1) := by decide +kernel
theorem dX1_payAndRest_119 : decode cX1_payAndRest 119 = .ok (.invokestatic 87, 3) := by decide +kernel
theorem dX1_payAndRest_122 : decode cX1_payAndRest 122 = .ok (.iastore, 1) := by decide +kernel
theorem dX1_payAndRest_123 : decode cX1_payAndRest 123 = .ok (.iinc 3 1, 3) := by decide +kernel
theorem dX1_payAndRest_126 : decode cX1_payAndRest 126 = .ok (.goto (-124), 3) := by decide +kernel
theorem dX1_payAndRest_129 : decode cX1_payAndRest 129 = .ok (.return_, 1) := by decide +kernel
theorem dX1_wear_0 : decode cX1_wear 0 = .ok (.iconst 0, 1) := by decide +kernel
theorem dX1_wear_1 : decode cX1_wear 1 = .ok (.istore_n 3, 1) := by decide +kernel
theorem dX1_wear_2 : decode cX1_wear 2 = .ok (.iload_n 3, 1) := by decide +kernel
theorem dX1_wear_3 : decode cX1_wear 3 = .ok (.aload_n 1, 1) := by decide +kernel
theorem dX1_wear_4 : decode cX1_wear 4 = .ok (.getfield 110, 3) := by decide +kernel
theorem dX1_wear_7 : decode cX1_wear 7 = .ok (.if_icmp .ge 44, 3) := by decide +kernel
theorem dX1_wear_10 : decode cX1_wear 10 = .ok (.aload_n 2, 1) := by decide +kernel
theorem dX1_wear_11 : decode cX1_wear 11 = .ok (.getfield 26, 3) := by decide +kernel
theorem dX1_wear_14 : decode cX1_wear 14 = .ok (.iload_n 3, 1) := by decide +kernel
theorem dX1_wear_15 : decode cX1_wear 15 = .ok (.iaload, 1) := by decide +kernel
theorem dX1_wear_16 : decode cX1_wear 16 = .ok (.ifCond .eq 29, 3) := by decide +kernel
theorem dX1_wear_19 : decode cX1_wear 19 = .ok (.aload_n 2, 1) := by decide +kernel
theorem dX1_wear_20 : decode cX1_wear 20 = .ok (.getfield 67, 3) := by decide +kernel
theorem dX1_wear_23 : decode cX1_wear 23 = .ok (.iload_n 3, 1) := by decide +kernel
theorem dX1_wear_24 : decode cX1_wear 24 = .ok (.bipush 99, 2) := by decide +kernel
theorem dX1_wear_26 : decode cX1_wear 26 = .ok (.aload_n 2, 1) := by decide +kernel
theorem dX1_wear_27 : decode cX1_wear 27 = .ok (.getfield 67, 3) := by decide +kernel
theorem dX1_wear_30 : decode cX1_wear 30 = .ok (.iload_n 3, 1) := by decide +kernel
theorem dX1_wear_31 : decode cX1_wear 31 = .ok (.iaload, 1) := by decide +kernel
theorem dX1_wear_32 : decode cX1_wear 32 = .ok (.aload_n 0, 1) := by decide +kernel
theorem dX1_wear_33 : decode cX1_wear 33 = .ok (.iconst 2, 1) := by decide +kernel
theorem dX1_wear_34 : decode cX1_wear 34 = .ok (.aload_n 1, 1) := by decide +kernel
theorem dX1_wear_35 : decode cX1_wear 35 = .ok (.aload_n 2, 1) := by decide +kernel
theorem dX1_wear_36 : decode cX1_wear 36 = .ok (.iload_n 3, 1) := by decide +kernel
theorem dX1_wear_37 : decode cX1_wear 37 = .ok (.invokevirtual 113, 3) := by decide +kernel
theorem dX1_wear_40 : decode cX1_wear 40 = .ok (.iadd, 1) := by decide +kernel
theorem dX1_wear_41 : decode cX1_wear 41 = .ok (.invokestatic 81, 3) := by decide +kernel
theorem dX1_wear_44 : decode cX1_wear 44 = .ok (.iastore, 1) := by decide +kernel
theorem dX1_wear_45 : decode cX1_wear 45 = .ok (.iinc 3 1, 3) := by decide +kernel
theorem dX1_wear_48 : decode cX1_wear 48 = .ok (.goto (-46), 3) := by decide +kernel
theorem dX1_wear_51 : decode cX1_wear 51 = .ok (.return_, 1) := by decide +kernel
theorem dX1_bury_0 : decode cX1_bury 0 = .ok (.iconst 0, 1) := by decide +kernel
theorem dX1_bury_1 : decode cX1_bury 1 = .ok (.istore 4, 2) := by decide +kernel
theorem dX1_bury_3 : decode cX1_bury 3 = .ok (.iload 4, 2) := by decide +kernel
theorem dX1_bury_5 : decode cX1_bury 5 = .ok (.aload_n 1, 1) := by decide +kernel
theorem dX1_bury_6 : decode cX1_bury 6 = .ok (.getfield 100, 3) := by decide +kernel
theorem dX1_bury_9 : decode cX1_bury 9 = .ok (.if_icmp .ge 80, 3) := by decide +kernel
theorem dX1_bury_12 : decode cX1_bury 12 = .ok (.aload_n 2, 1) := by decide +kernel
theorem dX1_bury_13 : decode cX1_bury 13 = .ok (.getfield 53, 3) := by decide +kernel
theorem dX1_bury_16 : decode cX1_bury 16 = .ok (.iload 4, 2) := by decide +kernel
theorem dX1_bury_18 : decode cX1_bury 18 = .ok (.iaload, 1) := by decide +kernel
theorem dX1_bury_19 : decode cX1_bury 19 = .ok (.aload_n 1, 1) := by decide +kernel
theorem dX1_bury_20 : decode cX1_bury 20 = .ok (.getfield 117, 3) := by decide +kernel
theorem dX1_bury_23 : decode cX1_bury 23 = .ok (.isub, 1) := by decide +kernel
theorem dX1_bury_24 : decode cX1_bury 24 = .ok (.istore 5, 2) := by decide +kernel
theorem dX1_bury_26 : decode cX1_bury 26 = .ok (.iload 5, 2) := by decide +kernel
theorem dX1_bury_28 : decode cX1_bury 28 = .ok (.ifCond .lt 55, 3) := by decide +kernel
theorem dX1_bury_31 : decode cX1_bury 31 = .ok (.aload_n 2, 1) := by decide +kernel
theorem dX1_bury_32 : decode cX1_bury 32 = .ok (.iload 4, 2) := by decide +kernel
theorem dX1_bury_34 : decode cX1_bury 34 = .ok (.invokevirtual 20, 3) := by decide +kernel
theorem dX1_bury_37 : decode cX1_bury 37 = .ok (.bipush (-2), 2) := by decide +kernel
theorem dX1_bury_39 : decode cX1_bury 39 = .ok (.if_icmp .eq 44, 3) := by decide +kernel
theorem dX1_bury_42 : decode cX1_bury 42 = .ok (.iload_n 3, 1) := by decide +kernel
theorem dX1_bury_43 : decode cX1_bury 43 = .ok (.bipush 8, 2) := by decide +kernel
theorem dX1_bury_45 : decode cX1_bury 45 = .ok (.aload_n 2, 1) := by decide +kernel
theorem dX1_bury_46 : decode cX1_bury 46 = .ok (.getfield 73, 3) := by decide +kernel
theorem dX1_bury_49 : decode cX1_bury 49 = .ok (.imul, 1) := by decide +kernel
theorem dX1_bury_50 : decode cX1_bury 50 = .ok (.iload 4, 2) := by decide +kernel
theorem dX1_bury_52 : decode cX1_bury 52 = .ok (.iadd, 1) := by decide +kernel
theorem dX1_bury_53 : decode cX1_bury 53 = .ok (.invokestatic 120, 3) := by decide +kernel
theorem dX1_bury_56 : decode cX1_bury 56 = .ok (.iload 5, 2) := by decide +kernel
theorem dX1_bury_58 : decode cX1_bury 58 = .ok (.bipush 10, 2) := by decide +kernel
theorem dX1_bury_60 : decode cX1_bury 60 = .ok (.iadd, 1) := by decide +kernel
theorem dX1_bury_61 : decode cX1_bury 61 = .ok (.if_icmp .ge 22, 3) := by decide +kernel
theorem dX1_bury_64 : decode cX1_bury 64 = .ok (.aload_n 2, 1) := by decide +kernel
theorem dX1_bury_65 : decode cX1_bury 65 = .ok (.dup, 1) := by decide +kernel
theorem dX1_bury_66 : decode cX1_bury 66 = .ok (.getfield 123, 3) := by decide +kernel
theorem dX1_bury_69 : decode cX1_bury 69 = .ok (.iconst 1, 1) := by decide +kernel
theorem dX1_bury_70 : decode cX1_bury 70 = .ok (.iload 4, 2) := by decide +kernel
theorem dX1_bury_72 : decode cX1_bury 72 = .ok (.ishl, 1) := by decide +kernel
theorem dX1_bury_73 : decode cX1_bury 73 = .ok (.ior, 1) := by decide +kernel
theorem dX1_bury_74 : decode cX1_bury 74 = .ok (.putfield 123, 3) := by decide +kernel
theorem dX1_bury_77 : decode cX1_bury 77 = .ok (.aload_n 2, 1) := by decide +kernel
theorem dX1_bury_78 : decode cX1_bury 78 = .ok (.iload 4, 2) := by decide +kernel
theorem dX1_bury_80 : decode cX1_bury 80 = .ok (.invokevirtual 126, 3) := by decide +kernel
theorem dX1_bury_83 : decode cX1_bury 83 = .ok (.iinc 4 1, 3) := by decide +kernel
theorem dX1_bury_86 : decode cX1_bury 86 = .ok (.goto (-83), 3) := by decide +kernel
theorem dX1_bury_89 : decode cX1_bury 89 = .ok (.return_, 1) := by decide +kernel
theorem dX1_lot_0 : decode cX1_lot 0 = .ok (.iload_n 0, 1) := by decide +kernel
theorem dX1_lot_1 : decode cX1_lot 1 = .ok (.sipush 165, 3) := by decide +kernel
theorem dX1_lot_4 : decode cX1_lot 4 = .ok (.invokestatic 130, 3) := by decide +kernel
theorem dX1_lot_7 : decode cX1_lot 7 = .ok (.iload_n 1, 1) := by decide +kernel
theorem dX1_lot_8 : decode cX1_lot 8 = .ok (.invokestatic 130, 3) := by decide +kernel
theorem dX1_lot_11 : decode cX1_lot 11 = .ok (.iconst 1, 1) := by decide +kernel
theorem dX1_lot_12 : decode cX1_lot 12 = .ok (.iushr, 1) := by decide +kernel
theorem dX1_lot_13 : decode cX1_lot 13 = .ok (.bipush 100, 2) := by decide +kernel
theorem dX1_lot_15 : decode cX1_lot 15 = .ok (.irem, 1) := by decide +kernel
theorem dX1_lot_16 : decode cX1_lot 16 = .ok (.ireturn, 1) := by decide +kernel
theorem dX1_stir_0 : decode cX1_stir 0 = .ok (.iload_n 0, 1) := by decide +kernel
theorem dX1_stir_1 : decode cX1_stir 1 = .ok (.iload_n 1, 1) := by decide +kernel
theorem dX1_stir_2 : decode cX1_stir 2 = .ok (.ixor, 1) := by decide +kernel
theorem dX1_stir_3 : decode cX1_stir 3 = .ok (.ldc 133, 2) := by decide +kernel
theorem dX1_stir_5 : decode cX1_stir 5 = .ok (.imul, 1) := by decide +kernel
theorem dX1_stir_6 : decode cX1_stir 6 = .ok (.sipush 12345, 3) := by decide +kernel
theorem dX1_stir_9 : decode cX1_stir 9 = .ok (.iadd, 1) := by decide +kernel
theorem dX1_stir_10 : decode cX1_stir 10 = .ok (.istore_n 2, 1) := by decide +kernel
theorem dX1_stir_11 : decode cX1_stir 11 = .ok (.iload_n 2, 1) := by decide +kernel
theorem dX1_stir_12 : decode cX1_stir 12 = .ok (.iload_n 2, 1) := by decide +kernel
theorem dX1_stir_13 : decode cX1_stir 13 = .ok (.bipush 15, 2) := by decide +kernel
theorem dX1_stir_15 : decode cX1_stir 15 = .ok (.iushr, 1) := by decide +kernel
theorem dX1_stir_16 : decode cX1_stir 16 = .ok (.ixor, 1) := by decide +kernel
theorem dX1_stir_17 : decode cX1_stir 17 = .ok (.ireturn, 1) := by decide +kernel
theorem dX2_init_0 : decode cX2_init 0 = .ok (.aload_n 0, 1) := by decide +kernel
theorem dX2_init_1 : decode cX2_init 1 = .ok (.invokespecial 3, 3) := by decide +kernel
theorem dX2_init_4 : decode cX2_init 4 = .ok (.aload_n 0, 1) := by decide +kernel
theorem dX2_init_5 : decode cX2_init 5 = .ok (.sipush 408, 3) := by decide +kernel
theorem dX2_init_8 : decode cX2_init 8 = .ok (.newarray .int, 2) := by decide +kernel
theorem dX2_init_10 : decode cX2_init 10 = .ok (.putfield 11, 3) := by decide +kernel
theorem dX2_init_13 : decode cX2_init 13 = .ok (.aload_n 0, 1) := by decide +kernel
theorem dX2_init_14 : decode cX2_init 14 = .ok (.sipush 408, 3) := by decide +kernel
theorem dX2_init_17 : decode cX2_init 17 = .ok (.newarray .int, 2) := by decide +kernel
theorem dX2_init_19 : decode cX2_init 19 = .ok (.putfield 15, 3) := by decide +kernel
theorem dX2_init_22 : decode cX2_init 22 = .ok (.aload_n 0, 1) := by decide +kernel
theorem dX2_init_23 : decode cX2_init 23 = .ok (.iconst 4, 1) := by decide +kernel
theorem dX2_init_24 : decode cX2_init 24 = .ok (.newarray .int, 2) := by decide +kernel
theorem dX2_init_26 : decode cX2_init 26 = .ok (.putfield 18, 3) := by decide +kernel
theorem dX2_init_29 : decode cX2_init 29 = .ok (.aload_n 0, 1) := by decide +kernel
theorem dX2_init_30 : decode cX2_init 30 = .ok (.iconst 0, 1) := by decide +kernel
theorem dX2_init_31 : decode cX2_init 31 = .ok (.putfield 21, 3) := by decide +kernel
theorem dX2_init_34 : decode cX2_init 34 = .ok (.return_, 1) := by decide +kernel
theorem dX2_begin_0 : decode cX2_begin 0 = .ok (.aload_n 0, 1) := by decide +kernel
theorem dX2_begin_1 : decode cX2_begin 1 = .ok (.iconst 0, 1) := by decide +kernel
theorem dX2_begin_2 : decode cX2_begin 2 = .ok (.putfield 21, 3) := by decide +kernel
theorem dX2_begin_5 : decode cX2_begin 5 = .ok (.aload_n 0, 1) := by decide +kernel
theorem dX2_begin_6 : decode cX2_begin 6 = .ok (.iconst 0, 1) := by decide +kernel
theorem dX2_begin_7 : decode cX2_begin 7 = .ok (.bipush 13, 2) := by decide +kernel
theorem dX2_begin_9 : decode cX2_begin 9 = .ok (.iconst 0, 1) := by decide +kernel
theorem dX2_begin_10 : decode cX2_begin 10 = .ok (.invokevirtual 25, 3) := by decide +kernel
theorem dX2_begin_13 : decode cX2_begin 13 = .ok (.aload_n 0, 1) := by decide +kernel
theorem dX2_begin_14 : decode cX2_begin 14 = .ok (.iconst 1, 1) := by decide +kernel
theorem dX2_begin_15 : decode cX2_begin 15 = .ok (.bipush 13, 2) := by decide +kernel
theorem dX2_begin_17 : decode cX2_begin 17 = .ok (.iconst 1, 1) := by decide +kernel
theorem dX2_begin_18 : decode cX2_begin 18 = .ok (.invokevirtual 25, 3) := by decide +kernel
theorem dX2_begin_21 : decode cX2_begin 21 = .ok (.aload_n 0, 1) := by decide +kernel
theorem dX2_begin_22 : decode cX2_begin 22 = .ok (.iconst 2, 1) := by decide +kernel
theorem dX2_begin_23 : decode cX2_begin 23 = .ok (.iconst 3, 1) := by decide +kernel
theorem dX2_begin_24 : decode cX2_begin 24 = .ok (.iconst 1, 1) := by decide +kernel
theorem dX2_begin_25 : decode cX2_begin 25 = .ok (.invokevirtual 25, 3) := by decide +kernel
theorem dX2_begin_28 : decode cX2_begin 28 = .ok (.aload_n 0, 1) := by decide +kernel
theorem dX2_begin_29 : decode cX2_begin 29 = .ok (.iconst 3, 1) := by decide +kernel
theorem dX2_begin_30 : decode cX2_begin 30 = .ok (.bipush 13, 2) := by decide +kernel
theorem dX2_begin_32 : decode cX2_begin 32 = .ok (.iconst 5, 1) := by decide +kernel
theorem dX2_begin_33 : decode cX2_begin 33 = .ok (.invokevirtual 25, 3) := by decide +kernel
theorem dX2_begin_36 : decode cX2_begin 36 = .ok (.return_, 1) := by decide +kernel
theorem dX2_addShortLaw_0 : decode cX2_addShortLaw 0 = .ok (.aload_n 0, 1) := by decide +kernel
theorem dX2_addShortLaw_1 : decode cX2_addShortLaw 1 = .ok (.iload_n 1, 1) := by decide +kernel
theorem dX2_addShortLaw_2 : decode cX2_addShortLaw 2 = .ok (.invokevirtual 29, 3) := by decide +kernel
theorem dX2_addShortLaw_5 : decode cX2_addShortLaw 5 = .ok (.aload_n 0, 1) := by decide +kernel
theorem dX2_addShortLaw_6 : decode cX2_addShortLaw 6 = .ok (.iload_n 2, 1) := by decide +kernel
theorem dX2_addShortLaw_7 : decode cX2_addShortLaw 7 = .ok (.iload_n 3, 1) := by decide +kernel
theorem dX2_addShortLaw_8 : decode cX2_addShortLaw 8 = .ok (.invokevirtual 33, 3) := by decide +kernel
theorem dX2_addShortLaw_11 : decode cX2_addShortLaw 11 = .ok (.pop, 1) := by decide +kernel
theorem dX2_addShortLaw_12 : decode cX2_addShortLaw 12 = .ok (.aload_n 0, 1) := by decide +kernel
theorem dX2_addShortLaw_13 : decode cX2_addShortLaw 13 = .ok (.iconst 0, 1) := by decide +kernel
theorem dX2_addShortLaw_14 : decode cX2_addShortLaw 14 = .ok (.iconst 0, 1) := by decide +kernel
theorem dX2_addShortLaw_15 : decode cX2_addShortLaw 15 = .ok (.invokevirtual 33, 3) := by decide +kernel
theorem dX2_addShortLaw_18 : decode cX2_addShortLaw 18 = .ok (.pop, 1) := by decide +kernel
theorem dX2_addShortLaw_19 : decode cX2_addShortLaw 19 = .ok (.return_, 1) := by decide +kernel
theorem dX2_startLaw_0 : decode cX2_startLaw 0 = .ok (.aload_n 0, 1) := by decide +kernel
theorem dX2_startLaw_1 : decode cX2_startLaw 1 = .ok (.getfield 18, 3) := by decide +kernel
theorem dX2_startLaw_4 : decode cX2_startLaw 4 = .ok (.iload_n 1, 1) := by decide +kernel
theorem dX2_startLaw_5 : decode cX2_startLaw 5 = .ok (.aload_n 0, 1) := by decide +kernel
theorem dX2_startLaw_6 : decode cX2_startLaw 6 = .ok (.getfield 21, 3) := by decide +kernel
theorem dX2_startLaw_9 : decode cX2_startLaw 9 = .ok (.iastore, 1) := by decide +kernel
theorem dX2_startLaw_10 : decode cX2_startLaw 10 = .ok (.return_, 1) := by decide +kernel
theorem dX2_add_0 : decode cX2_add 0 = .ok (.aload_n 0, 1) := by decide +kernel
theorem dX2_add_1 : decode cX2_add 1 = .ok (.getfield 21, 3) := by decide +kernel
theorem dX2_add_4 : decode cX2_add 4 = .ok (.sipush 408, 3) := by decide +kernel
theorem dX2_add_7 : decode cX2_add 7 = .ok (.if_icmp .lt 5, 3) := by decide +kernel
theorem dX2_add_10 : decode cX2_add 10 = .ok (.iconst 0, 1) := by decide +kernel
theorem dX2_add_11 : decode cX2_add 11 = .ok (.ireturn, 1) := by decide +kernel
theorem dX2_add_12 : decode cX2_add 12 = .ok (.aload_n 0, 1) := by decide +kernel
theorem dX2_add_13 : decode cX2_add 13 = .ok (.getfield 11, 3) := by decide +kernel
theorem dX2_add_16 : decode cX2_add 16 = .ok (.aload_n 0, 1) := by decide +kernel
theorem dX2_add_17 : decode cX2_add 17 = .ok (.getfield 21, 3) := by decide +kernel
theorem dX2_add_20 : decode cX2_add 20 = .ok (.iload_n 1, 1) := by decide +kernel
theorem dX2_add_21 : decode cX2_add 21 = .ok (.iastore, 1) := by decide +kernel
theorem dX2_add_22 : decode cX2_add 22 = .ok (.aload_n 0, 1) := by decide +kernel
theorem dX2_add_23 : decode cX2_add 23 = .ok (.getfield 15, 3) := by decide +kernel
theorem dX2_add_26 : decode cX2_add 26 = .ok (.aload_n 0, 1) := by decide +kernel
theorem dX2_add_27 : decode cX2_add 27 = .ok (.getfield 21, 3) := by decide +kernel
theorem dX2_add_30 : decode cX2_add 30 = .ok (.iload_n 2, 1) := by decide +kernel
theorem dX2_add_31 : decode cX2_add 31 = .ok (.iastore, 1) := by decide +kernel
theorem dX2_add_32 : decode cX2_add 32 = .ok (.aload_n 0, 1) := by decide +kernel
theorem dX2_add_33 : decode cX2_add 33 = .ok (.dup, 1) := by decide +kernel
theorem dX2_add_34 : decode cX2_add 34 = .ok (.getfield 21, 3) := by decide +kernel
theorem dX2_add_37 : decode cX2_add 37 = .ok (.iconst 1, 1) := by decide +kernel
theorem dX2_add_38 : decode cX2_add 38 = .ok (.iadd, 1) := by decide +kernel
theorem dX2_add_39 : decode cX2_add 39 = .ok (.putfield 21, 3) := by decide +kernel
theorem dX2_add_42 : decode cX2_add 42 = .ok (.aload_n 0, 1) := by decide +kernel
theorem dX2_add_43 : decode cX2_add 43 = .ok (.getfield 21, 3) := by decide +kernel
theorem dX2_add_46 : decode cX2_add 46 = .ok (.iconst 1, 1) := by decide +kernel
theorem dX2_add_47 : decode cX2_add 47 = .ok (.isub, 1) := by decide +kernel
theorem dX2_add_48 : decode cX2_add 48 = .ok (.ireturn, 1) := by decide +kernel
theorem dX2_aimBehind_0 : decode cX2_aimBehind 0 = .ok (.aload_n 0, 1) := by decide +kernel
theorem dX2_aimBehind_1 : decode cX2_aimBehind 1 = .ok (.getfield 15, 3) := by decide +kernel
theorem dX2_aimBehind_4 : decode cX2_aimBehind 4 = .ok (.iload_n 1, 1) := by decide +kernel
theorem dX2_aimBehind_5 : decode cX2_aimBehind 5 = .ok (.aload_n 0, 1) := by decide +kernel
theorem dX2_aimBehind_6 : decode cX2_aimBehind 6 = .ok (.getfield 21, 3) := by decide +kernel
theorem dX2_aimBehind_9 : decode cX2_aimBehind 9 = .ok (.iastore, 1) := by decide +kernel
theorem dX2_aimBehind_10 : decode cX2_aimBehind 10 = .ok (.return_, 1) := by decide +kernel
theorem dX2_answer_0 : decode cX2_answer 0 = .ok (.iconst 0, 1) := by decide +kernel
theorem dX2_answer_1 : decode cX2_answer 1 = .ok (.istore 4, 2) := by decide +kernel
theorem dX2_answer_3 : decode cX2_answer 3 = .ok (.aload_n 0, 1) := by decide +kernel
theorem dX2_answer_4 : decode cX2_answer 4 = .ok (.getfield 18, 3) := by decide +kernel
theorem dX2_answer_7 : decode cX2_answer 7 = .ok (.iload_n 1, 1) := by decide +kernel
theorem dX2_answer_8 : decode cX2_answer 8 = .ok (.iaload, 1) := by decide +kernel
theorem dX2_answer_9 : decode cX2_answer 9 = .ok (.istore 5, 2) := by decide +kernel
theorem dX2_answer_11 : decode cX2_answer 11 = .ok (.iload 5, 2) := by decide +kernel
theorem dX2_answer_13 : decode cX2_answer 13 = .ok (.aload_n 0, 1) := by decide +kernel
theorem dX2_answer_14 : decode cX2_answer 14 = .ok (.getfield 21, 3) := by decide +kernel
theorem dX2_answer_17 : decode cX2_answer 17 = .ok (.if_icmp .ge 194, 3) := by decide +kernel
theorem dX2_answer_20 : decode cX2_answer 20 = .ok (.aload_n 0, 1) := by decide +kernel
theorem dX2_answer_21 : decode cX2_answer 21 = .ok (.getfield 11, 3) := by decide +kernel
theorem dX2_answer_24 : decode cX2_answer 24 = .ok (.iload 5, 2) := by decide +kernel
theorem dX2_answer_26 : decode cX2_answer 26 = .ok (.iaload, 1) := by decide +kernel
theorem dX2_answer_27 : decode cX2_answer 27 = .ok (.istore 6, 2) := by decide +kernel
theorem dX2_answer_29 : decode cX2_answer 29 = .ok (.iload 6, 2) := by decide +kernel
theorem dX2_answer_31 : decode cX2_answer 31 = .ok (.ifCond .ne 20, 3) := by decide +kernel
theorem dX2_answer_34 : decode cX2_answer 34 = .ok (.iload 4, 2) := by decide +kernel
theorem dX2_answer_36 : decode cX2_answer 36 = .ok (.iconst 1, 1) := by decide +kernel
theorem dX2_answer_37 : decode cX2_answer 37 = .ok (.if_icmp .ge 7, 3) := by decide +kernel
theorem dX2_answer_40 : decode cX2_answer 40 = .ok (.iconst 0, 1) := by decide +kernel
theorem dX2_answer_41 : decode cX2_answer 41 = .ok (.goto 9, 3) := by decide +kernel
theorem dX2_answer_44 : decode cX2_answer 44 = .ok (.aload_n 3, 1) := by decide +kernel
theorem dX2_answer_45 : decode cX2_answer 45 = .ok (.iload 4, 2) := by decide +kernel
theorem dX2_answer_47 : decode cX2_answer 47 = .ok (.iconst 1, 1) := by decide +kernel
theorem dX2_answer_48 : decode cX2_answer 48 = .ok (.isub, 1) := by decide +kernel
theorem dX2_answer_49 : decode cX2_answer 49 = .ok (.iaload, 1) := by decide +kernel
theorem dX2_answer_50 : decode cX2_answer 50 = .ok (.ireturn, 1) := by decide +kernel
theorem dX2_answer_51 : decode cX2_answer 51 = .ok (.iload 6, 2) := by decide +kernel
theorem dX2_answer_53 : decode cX2_answer 53 = .ok (.iconst 3, 1) := by decide +kernel
theorem dX2_answer_54 : decode cX2_answer 54 = .ok (.if_icmp .eq 10, 3) := by decide +kernel
theorem dX2_answer_57 : decode cX2_answer 57 = .ok (.iload 6, 2) := by decide +kernel
theorem dX2_answer_59 : decode cX2_answer 59 = .ok (.bipush 13, 2) := by decide +kernel
theorem dX2_answer_61 : decode cX2_answer 61 = .ok (.if_icmp .ne 47, 3) := by decide +kernel
theorem dX2_answer_64 : decode cX2_answer 64 = .ok (.iload 4, 2) := by decide +kernel
theorem dX2_answer_66 : decode cX2_answer 66 = .ok (.bipush 16, 2) := by decide +kernel
theorem dX2_answer_68 : decode cX2_answer 68 = .ok (.if_icmp .lt 5, 3) := by decide +kernel
theorem dX2_answer_71 : decode cX2_answer 71 = .ok (.iconst 0, 1) := by decide +kernel
theorem dX2_answer_72 : decode cX2_answer 72 = .ok (.ireturn, 1) := by decide +kernel
theorem dX2_answer_73 : decode cX2_answer 73 = .ok (.aload_n 3, 1) := by decide +kernel
theorem dX2_answer_74 : decode cX2_answer 74 = .ok (.iload 4, 2) := by decide +kernel
theorem dX2_answer_76 : decode cX2_answer 76 = .ok (.iload 6, 2) := by decide +kernel
theorem dX2_answer_78 : decode cX2_answer 78 = .ok (.iconst 3, 1) := by decide +kernel
theorem dX2_answer_79 : decode cX2_answer 79 = .ok (.if_icmp .ne 13, 3) := by decide +kernel
theorem dX2_answer_82 : decode cX2_answer 82 = .ok (.aload_n 0, 1) := by decide +kernel
theorem dX2_answer_83 : decode cX2_answer 83 = .ok (.getfield 15, 3) := by decide +kernel
theorem dX2_answer_86 : decode cX2_answer 86 = .ok (.iload 5, 2) := by decide +kernel
theorem dX2_answer_88 : decode cX2_answer 88 = .ok (.iaload, 1) := by decide +kernel
theorem dX2_answer_89 : decode cX2_answer 89 = .ok (.goto 12, 3) := by decide +kernel
theorem dX2_answer_92 : decode cX2_answer 92 = .ok (.aload_n 2, 1) := by decide +kernel
theorem dX2_answer_93 : decode cX2_answer 93 = .ok (.aload_n 0, 1) := by decide +kernel
theorem dX2_answer_94 : decode cX2_answer 94 = .ok (.getfield 15, 3) := by decide +kernel
theorem dX2_answer_97 : decode cX2_answer 97 = .ok (.iload 5, 2) := by decide +kernel
theorem dX2_answer_99 : decode cX2_answer 99 = .ok (.iaload, 1) := by decide +kernel
theorem dX2_answer_100 : decode cX2_answer 100 = .ok (.iaload, 1) := by decide +kernel
theorem dX2_answer_101 : decode cX2_answer 101 = .ok (.iastore, 1) := by decide +kernel
theorem dX2_answer_102 : decode cX2_answer 102 = .ok (.iinc 4 1, 3) := by decide +kernel
theorem dX2_answer_105 : decode cX2_answer 105 = .ok (.goto 100, 3) := by decide +kernel
theorem dX2_answer_108 : decode cX2_answer 108 = .ok (.iload 4, 2) := by decide +kernel
theorem dX2_answer_110 : decode cX2_answer 110 = .ok (.iconst 2, 1) := by decide +kernel
theorem dX2_answer_111 : decode cX2_answer 111 = .ok (.if_icmp .ge 5, 3) := by decide +kernel
theorem dX2_answer_114 : decode cX2_answer 114 = .ok (.iconst 0, 1) := by decide +kernel
theorem dX2_answer_115 : decode cX2_answer 115 = .ok (.ireturn, 1) := by decide +kernel
theorem dX2_answer_116 : decode cX2_answer 116 = .ok (.aload_n 3, 1) := by decide +kernel
theorem dX2_answer_117 : decode cX2_answer 117 = .ok (.iload 4, 2) := by decide +kernel
theorem dX2_answer_119 : decode cX2_answer 119 = .ok (.iconst 2, 1) := by decide +kernel
theorem dX2_answer_120 : decode cX2_answer 120 = .ok (.isub, 1) := by decide +kernel
theorem dX2_answer_121 : decode cX2_answer 121 = .ok (.iaload, 1) := by decide +kernel
theorem dX2_answer_122 : decode cX2_answer 122 = .ok (.istore 7, 2) := by decide +kernel
theorem dX2_answer_124 : decode cX2_answer 124 = .ok (.aload_n 3, 1) := by decide +kernel
theorem dX2_answer_125 : decode cX2_answer 125 = .ok (.iload 4, 2) := by decide +kernel
theorem dX2_answer_127 : decode cX2_answer 127 = .ok (.iconst 1, 1) := by decide +kernel
theorem dX2_answer_128 : decode cX2_answer 128 = .ok (.isub, 1) := by decide +kernel
theorem dX2_answer_129 : decode cX2_answer 129 = .ok (.iaload, 1) := by decide +kernel
theorem dX2_answer_130 : decode cX2_answer 130 = .ok (.istore 8, 2) := by decide +kernel
theorem dX2_answer_132 : decode cX2_answer 132 = .ok (.iload 6, 2) := by decide +kernel
theorem dX2_answer_134 : decode cX2_answer 134 = .ok (.bipush 10, 2) := by decide +kernel
theorem dX2_answer_136 : decode cX2_answer 136 = .ok (.if_icmp .ne 37, 3) := by decide +kernel
theorem dX2_answer_139 : decode cX2_answer 139 = .ok (.iinc 4 (-2), 3) := by decide +kernel
theorem dX2_answer_142 : decode cX2_answer 142 = .ok (.iload 7, 2) := by decide +kernel
theorem dX2_answer_144 : decode cX2_answer 144 = .ok (.iload 8, 2) := by decide +kernel
theorem dX2_answer_146 : decode cX2_answer 146 = .ok (.if_icmp .ge 8, 3) := by decide +kernel
theorem dX2_answer_149 : decode cX2_answer 149 = .ok (.iload 5, 2) := by decide +kernel
theorem dX2_answer_151 : decode cX2_answer 151 = .ok (.goto 17, 3) := by decide +kernel
theorem dX2_answer_154 : decode cX2_answer 154 = .ok (.iload 5, 2) := by decide +kernel
theorem dX2_answer_156 : decode cX2_answer 156 = .ok (.aload_n 0, 1) := by decide +kernel
theorem dX2_answer_157 : decode cX2_answer 157 = .ok (.getfield 15, 3) := by decide +kernel
theorem dX2_answer_160 : decode cX2_answer 160 = .ok (.iload 5, 2) := by decide +kernel
theorem dX2_answer_162 : decode cX2_answer 162 = .ok (.iaload, 1) := by decide +kernel
theorem dX2_answer_163 : decode cX2_answer 163 = .ok (.iconst 1, 1) := by decide +kernel
theorem dX2_answer_164 : decode cX2_answer 164 = .ok (.isub, 1) := by decide +kernel
theorem dX2_answer_165 : decode cX2_answer 165 = .ok (.invokestatic 37, 3) := by decide +kernel
theorem dX2_answer_168 : decode cX2_answer 168 = .ok (.istore 5, 2) := by decide +kernel
theorem dX2_answer_170 : decode cX2_answer 170 = .ok (.goto 35, 3) := by decide +kernel
theorem dX2_answer_173 : decode cX2_answer 173 = .ok (.iload 6, 2) := by decide +kernel
theorem dX2_answer_175 : decode cX2_answer 175 = .ok (.bipush 9, 2) := by decide +kernel
theorem dX2_answer_177 : decode cX2_answer 177 = .ok (.if_icmp .ne 10, 3) := by decide +kernel
theorem dX2_answer_180 : decode cX2_answer 180 = .ok (.iload 8, 2) := by decide +kernel
theorem dX2_answer_182 : decode cX2_answer 182 = .ok (.ifCond .ne 5, 3) := by decide +kernel
theorem dX2_answer_185 : decode cX2_answer 185 = .ok (.iconst 0, 1) := by decide +kernel
theorem dX2_answer_186 : decode cX2_answer 186 = .ok (.ireturn, 1) := by decide +kernel
theorem dX2_answer_187 : decode cX2_answer 187 = .ok (.iinc 4 (-1), 3) := by decide +kernel
theorem dX2_answer_190 : decode cX2_answer 190 = .ok (.aload_n 3, 1) := by decide +kernel
theorem dX2_answer_191 : decode cX2_answer 191 = .ok (.iload 4, 2) := by decide +kernel
theorem dX2_answer_193 : decode cX2_answer 193 = .ok (.iconst 1, 1) := by decide +kernel
theorem dX2_answer_194 : decode cX2_answer 194 = .ok (.isub, 1) := by decide +kernel
theorem dX2_answer_195 : decode cX2_answer 195 = .ok (.iload 6, 2) := by decide +kernel
theorem dX2_answer_197 : decode cX2_answer 197 = .ok (.iload 7, 2) := by decide +kernel
theorem dX2_answer_199 : decode cX2_answer 199 = .ok (.iload 8, 2) := by decide +kernel
theorem dX2_answer_201 : decode cX2_answer 201 = .ok (.invokestatic 42, 3) := by decide +kernel
theorem dX2_answer_204 : decode cX2_answer 204 = .ok (.iastore, 1) := by decide +kernel
theorem dX2_answer_205 : decode cX2_answer 205 = .ok (.iinc 5 1, 3) := by decide +kernel
theorem dX2_answer_208 : decode cX2_answer 208 = .ok (.goto (-197), 3) := by decide +kernel
theorem dX2_answer_211 : decode cX2_answer 211 = .ok (.iconst 0, 1) := by decide +kernel
theorem dX2_answer_212 : decode cX2_answer 212 = .ok (.ireturn, 1) := by decide +kernel
theorem dX2_reckon_0 : decode cX2_reckon 0 = .ok (.iload_n 0, 1) := by decide +kernel
theorem dX2_reckon_1 : decode cX2_reckon 1 = .ok (.tableswitch 39 6 8 #[27, 31, 35], 27) := by decide +kernel
theorem dX2_reckon_28 : decode cX2_reckon 28 = .ok (.iload_n 1, 1) := by decide +kernel
theorem dX2_reckon_29 : decode cX2_reckon 29 = .ok (.iload_n 2, 1) := by decide +kernel
theorem dX2_reckon_30 : decode cX2_reckon 30 = .ok (.iadd, 1) := by decide +kernel
theorem dX2_reckon_31 : decode cX2_reckon 31 = .ok (.ireturn, 1) := by decide +kernel
theorem dX2_reckon_32 : decode cX2_reckon 32 = .ok (.iload_n 1, 1) := by decide +kernel
theorem dX2_reckon_33 : decode cX2_reckon 33 = .ok (.iload_n 2, 1) := by decide +kernel
theorem dX2_reckon_34 : decode cX2_reckon 34 = .ok (.isub, 1) := by decide +kernel
theorem dX2_reckon_35 : decode cX2_reckon 35 = .ok (.ireturn, 1) := by decide +kernel
theorem dX2_reckon_36 : decode cX2_reckon 36 = .ok (.iload_n 1, 1) := by decide +kernel
theorem dX2_reckon_37 : decode cX2_reckon 37 = .ok (.iload_n 2, 1) := by decide +kernel
theorem dX2_reckon_38 : decode cX2_reckon 38 = .ok (.imul, 1) := by decide +kernel
theorem dX2_reckon_39 : decode cX2_reckon 39 = .ok (.ireturn, 1) := by decide +kernel
theorem dX2_reckon_40 : decode cX2_reckon 40 = .ok (.iload_n 2, 1) := by decide +kernel
theorem dX2_reckon_41 : decode cX2_reckon 41 = .ok (.ifCond .ne 7, 3) := by decide +kernel
theorem dX2_reckon_44 : decode cX2_reckon 44 = .ok (.iconst 0, 1) := by decide +kernel
theorem dX2_reckon_45 : decode cX2_reckon 45 = .ok (.goto 6, 3) := by decide +kernel
theorem dX2_reckon_48 : decode cX2_reckon 48 = .ok (.iload_n 1, 1) := by decide +kernel
theorem dX2_reckon_49 : decode cX2_reckon 49 = .ok (.iload_n 2, 1) := by decide +kernel
theorem dX2_reckon_50 : decode cX2_reckon 50 = .ok (.idiv, 1) := by decide +kernel
theorem dX2_reckon_51 : decode cX2_reckon 51 = .ok (.ireturn, 1) := by decide +kernel
theorem dX3_init_0 : decode cX3_init 0 = .ok (.aload_n 0, 1) := by decide +kernel
theorem dX3_init_1 : decode cX3_init 1 = .ok (.invokespecial 3, 3) := by decide +kernel
theorem dX3_init_4 : decode cX3_init 4 = .ok (.aload_n 0, 1) := by decide +kernel
theorem dX3_init_5 : decode cX3_init 5 = .ok (.iconst 4, 1) := by decide +kernel
theorem dX3_init_6 : decode cX3_init 6 = .ok (.sipush 128, 3) := by decide +kernel
theorem dX3_init_9 : decode cX3_init 9 = .ok (.multianewarray 9 2, 4) := by decide +kernel
theorem dX3_init_13 : decode cX3_init 13 = .ok (.putfield 11, 3) := by decide +kernel
theorem dX3_init_16 : decode cX3_init 16 = .ok (.aload_n 0, 1) := by decide +kernel
theorem dX3_init_17 : decode cX3_init 17 = .ok (.iconst 5, 1) := by decide +kernel
theorem dX3_init_18 : decode cX3_init 18 = .ok (.sipush 128, 3) := by decide +kernel
theorem dX3_init_21 : decode cX3_init 21 = .ok (.multianewarray 9 2, 4) := by decide +kernel
theorem dX3_init_25 : decode cX3_init 25 = .ok (.putfield 16, 3) := by decide +kernel
theorem dX3_init_28 : decode cX3_init 28 = .ok (.aload_n 0, 1) := by decide +kernel
theorem dX3_init_29 : decode cX3_init 29 = .ok (.bipush 7, 2) := by decide +kernel
theorem dX3_init_31 : decode cX3_init 31 = .ok (.newarray .int, 2) := by decide +kernel
theorem dX3_init_33 : decode cX3_init 33 = .ok (.putfield 19, 3) := by decide +kernel
theorem dX3_init_36 : decode cX3_init 36 = .ok (.return_, 1) := by decide +kernel
theorem dX3_valueSets_0 : decode cX3_valueSets 0 = .ok (.aload_n 2, 1) := by decide +kernel
theorem dX3_valueSets_1 : decode cX3_valueSets 1 = .ok (.aload_n 3, 1) := by decide +kernel
theorem dX3_valueSets_2 : decode cX3_valueSets 2 = .ok (.iload 4, 2) := by decide +kernel
theorem dX3_valueSets_4 : decode cX3_valueSets 4 = .ok (.invokestatic 23, 3) := by decide +kernel
theorem dX3_valueSets_7 : decode cX3_valueSets 7 = .ok (.istore 5, 2) := by decide +kernel
theorem dX3_valueSets_9 : decode cX3_valueSets 9 = .ok (.iconst 0, 1) := by decide +kernel
theorem dX3_valueSets_10 : decode cX3_valueSets 10 = .ok (.istore 6, 2) := by decide +kernel
theorem dX3_valueSets_12 : decode cX3_valueSets 12 = .ok (.iload 6, 2) := by decide +kernel
theorem dX3_valueSets_14 : decode cX3_valueSets 14 = .ok (.aload_n 2, 1) := by decide +kernel
theorem dX3_valueSets_15 : decode cX3_valueSets 15 = .ok (.getfield 27, 3) := by decide +kernel
theorem dX3_valueSets_18 : decode cX3_valueSets 18 = .ok (.if_icmp .ge 43, 3) := by decide +kernel
theorem dX3_valueSets_21 : decode cX3_valueSets 21 = .ok (.aload_n 0, 1) := by decide +kernel
theorem dX3_valueSets_22 : decode cX3_valueSets 22 = .ok (.getfield 19, 3) := by decide +kernel
theorem dX3_valueSets_25 : decode cX3_valueSets 25 = .ok (.iload 6, 2) := by decide +kernel
theorem dX3_valueSets_27 : decode cX3_valueSets 27 = .ok (.iload 5, 2) := by decide +kernel
theorem dX3_valueSets_29 : decode cX3_valueSets 29 = .ok (.iload 6, 2) := by decide +kernel
theorem dX3_valueSets_31 : decode cX3_valueSets 31 = .ok (.ishr, 1) := by decide +kernel
theorem dX3_valueSets_32 : decode cX3_valueSets 32 = .ok (.iconst 1, 1) := by decide +kernel
theorem dX3_valueSets_33 : decode cX3_valueSets 33 = .ok (.iand, 1) := by decide +kernel
theorem dX3_valueSets_34 : decode cX3_valueSets 34 = .ok (.iconst 1, 1) := by decide +kernel
theorem dX3_valueSets_35 : decode cX3_valueSets 35 = .ok (.if_icmp .ne 18, 3) := by decide +kernel
theorem dX3_valueSets_38 : decode cX3_valueSets 38 = .ok (.aload_n 1, 1) := by decide +kernel
theorem dX3_valueSets_39 : decode cX3_valueSets 39 = .ok (.iconst 0, 1) := by decide +kernel
theorem dX3_valueSets_40 : decode cX3_valueSets 40 = .ok (.aload_n 2, 1) := by decide +kernel
theorem dX3_valueSets_41 : decode cX3_valueSets 41 = .ok (.aload_n 3, 1) := by decide +kernel
theorem dX3_valueSets_42 : decode cX3_valueSets 42 = .ok (.iload 6, 2) := by decide +kernel
theorem dX3_valueSets_44 : decode cX3_valueSets 44 = .ok (.iload 4, 2) := by decide +kernel
theorem dX3_valueSets_46 : decode cX3_valueSets 46 = .ok (.iconst 0, 1) := by decide +kernel
theorem dX3_valueSets_47 : decode cX3_valueSets 47 = .ok (.invokevirtual 33, 3) := by decide +kernel
theorem dX3_valueSets_50 : decode cX3_valueSets 50 = .ok (.goto 4, 3) := by decide +kernel
theorem dX3_valueSets_53 : decode cX3_valueSets 53 = .ok (.iconst 0, 1) := by decide +kernel
theorem dX3_valueSets_54 : decode cX3_valueSets 54 = .ok (.iastore, 1) := by decide +kernel
theorem dX3_valueSets_55 : decode cX3_valueSets 55 = .ok (.iinc 6 1, 3) := by decide +kernel
theorem dX3_valueSets_58 : decode cX3_valueSets 58 = .ok (.goto (-46), 3) := by decide +kernel
theorem dX3_valueSets_61 : decode cX3_valueSets 61 = .ok (.aload_n 0, 1) := by decide +kernel
theorem dX3_valueSets_62 : decode cX3_valueSets 62 = .ok (.getfield 11, 3) := by decide +kernel
theorem dX3_valueSets_65 : decode cX3_valueSets 65 = .ok (.iload 4, 2) := by decide +kernel
theorem dX3_valueSets_67 : decode cX3_valueSets 67 = .ok (.aaload, 1) := by decide +kernel
theorem dX3_valueSets_68 : decode cX3_valueSets 68 = .ok (.astore 6, 2) := by decide +kernel
theorem dX3_valueSets_70 : decode cX3_valueSets 70 = .ok (.aload 6, 2) := by decide +kernel
theorem dX3_valueSets_72 : decode cX3_valueSets 72 = .ok (.iconst 0, 1) := by decide +kernel
theorem dX3_valueSets_73 : decode cX3_valueSets 73 = .ok (.iconst 0, 1) := by decide +kernel
theorem dX3_valueSets_74 : decode cX3_valueSets 74 = .ok (.iastore, 1) := by decide +kernel
theorem dX3_valueSets_75 : decode cX3_valueSets 75 = .ok (.iconst 1, 1) := by decide +kernel
theorem dX3_valueSets_76 : decode cX3_valueSets 76 = .ok (.istore 7, 2) := by decide +kernel
theorem dX3_valueSets_78 : decode cX3_valueSets 78 = .ok (.iload 7, 2) := by decide +kernel
theorem dX3_valueSets_80 : decode cX3_valueSets 80 = .ok (.iconst 1, 1) := by decide +kernel
theorem dX3_valueSets_81 : decode cX3_valueSets 81 = .ok (.aload_n 2, 1) := by decide +kernel
theorem dX3_valueSets_82 : decode cX3_valueSets 82 = .ok (.getfield 27, 3) := by decide +kernel
theorem dX3_valueSets_85 : decode cX3_valueSets 85 = .ok (.ishl, 1) := by decide +kernel
theorem dX3_valueSets_86 : decode cX3_valueSets 86 = .ok (.if_icmp .ge 71, 3) := by decide +kernel
theorem dX3_valueSets_89 : decode cX3_valueSets 89 = .ok (.iload 7, 2) := by decide +kernel
theorem dX3_valueSets_91 : decode cX3_valueSets 91 = .ok (.iload 5, 2) := by decide +kernel
theorem dX3_valueSets_93 : decode cX3_valueSets 93 = .ok (.iconst (-1), 1) := by decide +kernel
theorem dX3_valueSets_94 : decode cX3_valueSets 94 = .ok (.ixor, 1) := by decide +kernel
theorem dX3_valueSets_95 : decode cX3_valueSets 95 = .ok (.iand, 1) := by decide +kernel
theorem dX3_valueSets_96 : decode cX3_valueSets 96 = .ok (.ifCond .ne 17, 3) := by decide +kernel
theorem dX3_valueSets_99 : decode cX3_valueSets 99 = .ok (.aload_n 2, 1) := by decide +kernel
theorem dX3_valueSets_100 : decode cX3_valueSets 100 = .ok (.getfield 39, 3) := by decide +kernel
theorem dX3_valueSets_103 : decode cX3_valueSets 103 = .ok (.iload 7, 2) := by decide +kernel
theorem dX3_valueSets_105 : decode cX3_valueSets 105 = .ok (.baload, 1) := by decide +kernel
theorem dX3_valueSets_106 : decode cX3_valueSets 106 = .ok (.ifCond .eq 7, 3) := by decide +kernel
theorem dX3_valueSets_109 : decode cX3_valueSets 109 = .ok (.iconst 1, 1) := by decide +kernel
theorem dX3_valueSets_110 : decode cX3_valueSets 110 = .ok (.goto 4, 3) := by decide +kernel
theorem dX3_valueSets_113 : decode cX3_valueSets 113 = .ok (.iconst 0, 1) := by decide +kernel
theorem dX3_valueSets_114 : decode cX3_valueSets 114 = .ok (.istore 8, 2) := by decide +kernel
theorem dX3_valueSets_116 : decode cX3_valueSets 116 = .ok (.aload 6, 2) := by decide +kernel
theorem dX3_valueSets_118 : decode cX3_valueSets 118 = .ok (.iload 7, 2) := by decide +kernel
theorem dX3_valueSets_120 : decode cX3_valueSets 120 = .ok (.iload 8, 2) := by decide +kernel
theorem dX3_valueSets_122 : decode cX3_valueSets 122 = .ok (.ifCond .eq 27, 3) := by decide +kernel
theorem dX3_valueSets_125 : decode cX3_valueSets 125 = .ok (.aload 6, 2) := by decide +kernel
theorem dX3_valueSets_127 : decode cX3_valueSets 127 = .ok (.iload 7, 2) := by decide +kernel
theorem dX3_valueSets_129 : decode cX3_valueSets 129 = .ok (.iload 7, 2) := by decide +kernel
theorem dX3_valueSets_131 : decode cX3_valueSets 131 = .ok (.iconst 1, 1) := by decide +kernel
theorem dX3_valueSets_132 : decode cX3_valueSets 132 = .ok (.isub, 1) := by decide +kernel
theorem dX3_valueSets_133 : decode cX3_valueSets 133 = .ok (.iand, 1) := by decide +kernel
theorem dX3_valueSets_134 : decode cX3_valueSets 134 = .ok (.iaload, 1) := by decide +kernel
theorem dX3_valueSets_135 : decode cX3_valueSets 135 = .ok (.aload_n 0, 1) := by decide +kernel
theorem dX3_valueSets_136 : decode cX3_valueSets 136 = .ok (.getfield 19, 3) := by decide +kernel
theorem dX3_valueSets_139 : decode cX3_valueSets 139 = .ok (.iload 7, 2) := by decide +kernel
theorem dX3_valueSets_141 : decode cX3_valueSets 141 = .ok (.invokestatic 43, 3) := by decide +kernel
theorem dX3_valueSets_144 : decode cX3_valueSets 144 = .ok (.iaload, 1) := by decide +kernel
theorem dX3_valueSets_145 : decode cX3_valueSets 145 = .ok (.iadd, 1) := by decide +kernel
theorem dX3_valueSets_146 : decode cX3_valueSets 146 = .ok (.goto 4, 3) := by decide +kernel
theorem dX3_valueSets_149 : decode cX3_valueSets 149 = .ok (.iconst (-1), 1) := by decide +kernel
theorem dX3_valueSets_150 : decode cX3_valueSets 150 = .ok (.iastore, 1) := by decide +kernel
theorem dX3_valueSets_151 : decode cX3_valueSets 151 = .ok (.iinc 7 1, 3) := by decide +kernel
theorem dX3_valueSets_154 : decode cX3_valueSets 154 = .ok (.goto (-76), 3) := by decide +kernel
theorem dX3_valueSets_157 : decode cX3_valueSets 157 = .ok (.return_, 1) := by decide +kernel
theorem dX3_livingFit_0 : decode cX3_livingFit 0 = .ok (.iconst 0, 1) := by decide +kernel
theorem dX3_livingFit_1 : decode cX3_livingFit 1 = .ok (.istore_n 3, 1) := by decide +kernel
theorem dX3_livingFit_2 : decode cX3_livingFit 2 = .ok (.iconst 0, 1) := by decide +kernel
theorem dX3_livingFit_3 : decode cX3_livingFit 3 = .ok (.istore 4, 2) := by decide +kernel
theorem dX3_livingFit_5 : decode cX3_livingFit 5 = .ok (.iload 4, 2) := by decide +kernel
theorem dX3_livingFit_7 : decode cX3_livingFit 7 = .ok (.aload_n 0, 1) := by decide +kernel
theorem dX3_livingFit_8 : decode cX3_livingFit 8 = .ok (.getfield 27, 3) := by decide +kernel
theorem dX3_livingFit_11 : decode cX3_livingFit 11 = .ok (.if_icmp .ge 43, 3) := by decide +kernel
theorem dX3_livingFit_14 : decode cX3_livingFit 14 = .ok (.aload_n 1, 1) := by decide +kernel
theorem dX3_livingFit_15 : decode cX3_livingFit 15 = .ok (.iload 4, 2) := by decide +kernel
theorem dX3_livingFit_17 : decode cX3_livingFit 17 = .ok (.invokevirtual 49, 3) := by decide +kernel
theorem dX3_livingFit_20 : decode cX3_livingFit 20 = .ok (.ifCond .ne 28, 3) := by decide +kernel
theorem dX3_livingFit_23 : decode cX3_livingFit 23 = .ok (.aload_n 1, 1) := by decide +kernel
theorem dX3_livingFit_24 : decode cX3_livingFit 24 = .ok (.iload_n 2, 1) := by decide +kernel
theorem dX3_livingFit_25 : decode cX3_livingFit 25 = .ok (.invokevirtual 55, 3) := by decide +kernel
theorem dX3_livingFit_28 : decode cX3_livingFit 28 = .ok (.ifCond .ne 20, 3) := by decide +kernel
theorem dX3_livingFit_31 : decode cX3_livingFit 31 = .ok (.aload_n 0, 1) := by decide +kernel
theorem dX3_livingFit_32 : decode cX3_livingFit 32 = .ok (.iload_n 2, 1) := by decide +kernel
theorem dX3_livingFit_33 : decode cX3_livingFit 33 = .ok (.iload 4, 2) := by decide +kernel
theorem dX3_livingFit_35 : decode cX3_livingFit 35 = .ok (.invokevirtual 58, 3) := by decide +kernel
theorem dX3_livingFit_38 : decode cX3_livingFit 38 = .ok (.ifCond .eq 10, 3) := by decide +kernel
theorem dX3_livingFit_41 : decode cX3_livingFit 41 = .ok (.iload_n 3, 1) := by decide +kernel
theorem dX3_livingFit_42 : decode cX3_livingFit 42 = .ok (.iconst 1, 1) := by decide +kernel
theorem dX3_livingFit_43 : decode cX3_livingFit 43 = .ok (.iload 4, 2) := by decide +kernel
theorem dX3_livingFit_45 : decode cX3_livingFit 45 = .ok (.ishl, 1) := by decide +kernel
theorem dX3_livingFit_46 : decode cX3_livingFit 46 = .ok (.ior, 1) := by decide +kernel
theorem dX3_livingFit_47 : decode cX3_livingFit 47 = .ok (.istore_n 3, 1) := by decide +kernel
theorem dX3_livingFit_48 : decode cX3_livingFit 48 = .ok (.iinc 4 1, 3) := by decide +kernel
theorem dX3_livingFit_51 : decode cX3_livingFit 51 = .ok (.goto (-46), 3) := by decide +kernel
theorem dX3_livingFit_54 : decode cX3_livingFit 54 = .ok (.iload_n 3, 1) := by decide +kernel
theorem dX3_livingFit_55 : decode cX3_livingFit 55 = .ok (.ireturn, 1) := by decide +kernel
theorem dX3_bestSet_0 : decode cX3_bestSet 0 = .ok (.aload_n 0, 1) := by decide +kernel
theorem dX3_bestSet_1 : decode cX3_bestSet 1 = .ok (.getfield 11, 3) := by decide +kernel
theorem dX3_bestSet_4 : decode cX3_bestSet 4 = .ok (.iload_n 2, 1) := by decide +kernel
theorem dX3_bestSet_5 : decode cX3_bestSet 5 = .ok (.aaload, 1) := by decide +kernel
theorem dX3_bestSet_6 : decode cX3_bestSet 6 = .ok (.astore_n 3, 1) := by decide +kernel
theorem dX3_bestSet_7 : decode cX3_bestSet 7 = .ok (.iconst 0, 1) := by decide +kernel
theorem dX3_bestSet_8 : decode cX3_bestSet 8 = .ok (.istore 4, 2) := by decide +kernel
theorem dX3_bestSet_10 : decode cX3_bestSet 10 = .ok (.iconst 1, 1) := by decide +kernel
theorem dX3_bestSet_11 : decode cX3_bestSet 11 = .ok (.istore 5, 2) := by decide +kernel
theorem dX3_bestSet_13 : decode cX3_bestSet 13 = .ok (.iload 5, 2) := by decide +kernel
theorem dX3_bestSet_15 : decode cX3_bestSet 15 = .ok (.iconst 1, 1) := by decide +kernel
theorem dX3_bestSet_16 : decode cX3_bestSet 16 = .ok (.aload_n 1, 1) := by decide +kernel
theorem dX3_bestSet_17 : decode cX3_bestSet 17 = .ok (.getfield 27, 3) := by decide +kernel
theorem dX3_bestSet_20 : decode cX3_bestSet 20 = .ok (.ishl, 1) := by decide +kernel
theorem dX3_bestSet_21 : decode cX3_bestSet 21 = .ok (.if_icmp .ge 24, 3) := by decide +kernel
theorem dX3_bestSet_24 : decode cX3_bestSet 24 = .ok (.aload_n 3, 1) := by decide +kernel
theorem dX3_bestSet_25 : decode cX3_bestSet 25 = .ok (.iload 5, 2) := by decide +kernel
theorem dX3_bestSet_27 : decode cX3_bestSet 27 = .ok (.iaload, 1) := by decide +kernel
theorem dX3_bestSet_28 : decode cX3_bestSet 28 = .ok (.aload_n 3, 1) := by decide +kernel
theorem dX3_bestSet_29 : decode cX3_bestSet 29 = .ok (.iload 4, 2) := by decide +kernel
theorem dX3_bestSet_31 : decode cX3_bestSet 31 = .ok (.iaload, 1) := by decide +kernel
theorem dX3_bestSet_32 : decode cX3_bestSet 32 = .ok (.if_icmp .le 7, 3) := by decide +kernel
theorem dX3_bestSet_35 : decode cX3_bestSet 35 = .ok (.iload 5, 2) := by decide +kernel
theorem dX3_bestSet_37 : decode cX3_bestSet 37 = .ok (.istore 4, 2) := by decide +kernel
theorem dX3_bestSet_39 : decode cX3_bestSet 39 = .ok (.iinc 5 1, 3) := by decide +kernel
theorem dX3_bestSet_42 : decode cX3_bestSet 42 = .ok (.goto (-29), 3) := by decide +kernel
theorem dX3_bestSet_45 : decode cX3_bestSet 45 = .ok (.iload 4, 2) := by decide +kernel
theorem dX3_bestSet_47 : decode cX3_bestSet 47 = .ok (.ireturn, 1) := by decide +kernel
theorem dX3_letAll_0 : decode cX3_letAll 0 = .ok (.iconst 0, 1) := by decide +kernel
theorem dX3_letAll_1 : decode cX3_letAll 1 = .ok (.istore_n 2, 1) := by decide +kernel
theorem dX3_letAll_2 : decode cX3_letAll 2 = .ok (.iload_n 2, 1) := by decide +kernel
theorem dX3_letAll_3 : decode cX3_letAll 3 = .ok (.sipush 128, 3) := by decide +kernel
theorem dX3_letAll_6 : decode cX3_letAll 6 = .ok (.if_icmp .ge 18, 3) := by decide +kernel
theorem dX3_letAll_9 : decode cX3_letAll 9 = .ok (.aload_n 0, 1) := by decide +kernel
theorem dX3_letAll_10 : decode cX3_letAll 10 = .ok (.getfield 16, 3) := by decide +kernel
theorem dX3_letAll_13 : decode cX3_letAll 13 = .ok (.iconst 0, 1) := by decide +kernel
theorem dX3_letAll_14 : decode cX3_letAll 14 = .ok (.aaload, 1) := by decide +kernel
theorem dX3_letAll_15 : decode cX3_letAll 15 = .ok (.iload_n 2, 1) := by decide +kernel
theorem dX3_letAll_16 : decode cX3_letAll 16 = .ok (.iconst 0, 1) := by decide +kernel
theorem dX3_letAll_17 : decode cX3_letAll 17 = .ok (.iastore, 1) := by decide +kernel
theorem dX3_letAll_18 : decode cX3_letAll 18 = .ok (.iinc 2 1, 3) := by decide +kernel
theorem dX3_letAll_21 : decode cX3_letAll 21 = .ok (.goto (-19), 3) := by decide +kernel
theorem dX3_letAll_24 : decode cX3_letAll 24 = .ok (.iconst 0, 1) := by decide +kernel
theorem dX3_letAll_25 : decode cX3_letAll 25 = .ok (.istore_n 2, 1) := by decide +kernel
theorem dX3_letAll_26 : decode cX3_letAll 26 = .ok (.iload_n 2, 1) := by decide +kernel
theorem dX3_letAll_27 : decode cX3_letAll 27 = .ok (.aload_n 1, 1) := by decide +kernel
theorem dX3_letAll_28 : decode cX3_letAll 28 = .ok (.getfield 62, 3) := by decide +kernel
theorem dX3_letAll_31 : decode cX3_letAll 31 = .ok (.if_icmp .ge 43, 3) := by decide +kernel
theorem dX3_letAll_34 : decode cX3_letAll 34 = .ok (.iconst 0, 1) := by decide +kernel
theorem dX3_letAll_35 : decode cX3_letAll 35 = .ok (.istore_n 3, 1) := by decide +kernel
theorem dX3_letAll_36 : decode cX3_letAll 36 = .ok (.iload_n 3, 1) := by decide +kernel
theorem dX3_letAll_37 : decode cX3_letAll 37 = .ok (.iconst 1, 1) := by decide +kernel
theorem dX3_letAll_38 : decode cX3_letAll 38 = .ok (.aload_n 1, 1) := by decide +kernel
theorem dX3_letAll_39 : decode cX3_letAll 39 = .ok (.getfield 27, 3) := by decide +kernel
theorem dX3_letAll_42 : decode cX3_letAll 42 = .ok (.ishl, 1) := by decide +kernel
theorem dX3_letAll_43 : decode cX3_letAll 43 = .ok (.if_icmp .ge 25, 3) := by decide +kernel
theorem dX3_letAll_46 : decode cX3_letAll 46 = .ok (.aload_n 0, 1) := by decide +kernel
theorem dX3_letAll_47 : decode cX3_letAll 47 = .ok (.getfield 16, 3) := by decide +kernel
theorem dX3_letAll_50 : decode cX3_letAll 50 = .ok (.iload_n 2, 1) := by decide +kernel
theorem dX3_letAll_51 : decode cX3_letAll 51 = .ok (.iconst 1, 1) := by decide +kernel
theorem dX3_letAll_52 : decode cX3_letAll 52 = .ok (.iadd, 1) := by decide +kernel
theorem dX3_letAll_53 : decode cX3_letAll 53 = .ok (.aaload, 1) := by decide +kernel
theorem dX3_letAll_54 : decode cX3_letAll 54 = .ok (.iload_n 3, 1) := by decide +kernel
theorem dX3_letAll_55 : decode cX3_letAll 55 = .ok (.aload_n 0, 1) := by decide +kernel
theorem dX3_letAll_56 : decode cX3_letAll 56 = .ok (.iload_n 2, 1) := by decide +kernel
theorem dX3_letAll_57 : decode cX3_letAll 57 = .ok (.iload_n 3, 1) := by decide +kernel
theorem dX3_letAll_58 : decode cX3_letAll 58 = .ok (.invokevirtual 65, 3) := by decide +kernel
theorem dX3_letAll_61 : decode cX3_letAll 61 = .ok (.iastore, 1) := by decide +kernel
theorem dX3_letAll_62 : decode cX3_letAll 62 = .ok (.iinc 3 1, 3) := by decide +kernel
theorem dX3_letAll_65 : decode cX3_letAll 65 = .ok (.goto (-29), 3) := by decide +kernel
theorem dX3_letAll_68 : decode cX3_letAll 68 = .ok (.iinc 2 1, 3) := by decide +kernel
theorem dX3_letAll_71 : decode cX3_letAll 71 = .ok (.goto (-45), 3) := by decide +kernel
theorem dX3_letAll_74 : decode cX3_letAll 74 = .ok (.return_, 1) := by decide +kernel
theorem dX3_mostWith_0 : decode cX3_mostWith 0 = .ok (.aload_n 0, 1) := by decide +kernel
theorem dX3_mostWith_1 : decode cX3_mostWith 1 = .ok (.getfield 16, 3) := by decide +kernel
theorem dX3_mostWith_4 : decode cX3_mostWith 4 = .ok (.iload_n 1, 1) := by decide +kernel
theorem dX3_mostWith_5 : decode cX3_mostWith 5 = .ok (.aaload, 1) := by decide +kernel
theorem dX3_mostWith_6 : decode cX3_mostWith 6 = .ok (.iload_n 2, 1) := by decide +kernel
theorem dX3_mostWith_7 : decode cX3_mostWith 7 = .ok (.iaload, 1) := by decide +kernel
theorem dX3_mostWith_8 : decode cX3_mostWith 8 = .ok (.istore_n 3, 1) := by decide +kernel
theorem dX3_mostWith_9 : decode cX3_mostWith 9 = .ok (.iload_n 2, 1) := by decide +kernel
theorem dX3_mostWith_10 : decode cX3_mostWith 10 = .ok (.istore 4, 2) := by decide +kernel
theorem dX3_mostWith_12 : decode cX3_mostWith 12 = .ok (.iload 4, 2) := by decide +kernel
theorem dX3_mostWith_14 : decode cX3_mostWith 14 = .ok (.ifCond .le 50, 3) := by decide +kernel
theorem dX3_mostWith_17 : decode cX3_mostWith 17 = .ok (.aload_n 0, 1) := by decide +kernel
theorem dX3_mostWith_18 : decode cX3_mostWith 18 = .ok (.getfield 11, 3) := by decide +kernel
theorem dX3_mostWith_21 : decode cX3_mostWith 21 = .ok (.iload_n 1, 1) := by decide +kernel
theorem dX3_mostWith_22 : decode cX3_mostWith 22 = .ok (.aaload, 1) := by decide +kernel
theorem dX3_mostWith_23 : decode cX3_mostWith 23 = .ok (.iload 4, 2) := by decide +kernel
theorem dX3_mostWith_25 : decode cX3_mostWith 25 = .ok (.iaload, 1) := by decide +kernel
theorem dX3_mostWith_26 : decode cX3_mostWith 26 = .ok (.istore 5, 2) := by decide +kernel
theorem dX3_mostWith_28 : decode cX3_mostWith 28 = .ok (.iload 5, 2) := by decide +kernel
theorem dX3_mostWith_30 : decode cX3_mostWith 30 = .ok (.iconst (-1), 1) := by decide +kernel
theorem dX3_mostWith_31 : decode cX3_mostWith 31 = .ok (.if_icmp .eq 22, 3) := by decide +kernel
theorem dX3_mostWith_34 : decode cX3_mostWith 34 = .ok (.iload_n 3, 1) := by decide +kernel
theorem dX3_mostWith_35 : decode cX3_mostWith 35 = .ok (.iload 5, 2) := by decide +kernel
theorem dX3_mostWith_37 : decode cX3_mostWith 37 = .ok (.aload_n 0, 1) := by decide +kernel
theorem dX3_mostWith_38 : decode cX3_mostWith 38 = .ok (.getfield 16, 3) := by decide +kernel
theorem dX3_mostWith_41 : decode cX3_mostWith 41 = .ok (.iload_n 1, 1) := by decide +kernel
theorem dX3_mostWith_42 : decode cX3_mostWith 42 = .ok (.aaload, 1) := by decide +kernel
theorem dX3_mostWith_43 : decode cX3_mostWith 43 = .ok (.iload_n 2, 1) := by decide +kernel
theorem dX3_mostWith_44 : decode cX3_mostWith 44 = .ok (.iload 4, 2) := by decide +kernel
theorem dX3_mostWith_46 : decode cX3_mostWith 46 = .ok (.ixor, 1) := by decide +kernel
theorem dX3_mostWith_47 : decode cX3_mostWith 47 = .ok (.iaload, 1) := by decide +kernel
theorem dX3_mostWith_48 : decode cX3_mostWith 48 = .ok (.iadd, 1) := by decide +kernel
theorem dX3_mostWith_49 : decode cX3_mostWith 49 = .ok (.invokestatic 69, 3) := by decide +kernel
theorem dX3_mostWith_52 : decode cX3_mostWith 52 = .ok (.istore_n 3, 1) := by decide +kernel
theorem dX3_mostWith_53 : decode cX3_mostWith 53 = .ok (.iload 4, 2) := by decide +kernel
theorem dX3_mostWith_55 : decode cX3_mostWith 55 = .ok (.iconst 1, 1) := by decide +kernel
theorem dX3_mostWith_56 : decode cX3_mostWith 56 = .ok (.isub, 1) := by decide +kernel
theorem dX3_mostWith_57 : decode cX3_mostWith 57 = .ok (.iload_n 2, 1) := by decide +kernel
theorem dX3_mostWith_58 : decode cX3_mostWith 58 = .ok (.iand, 1) := by decide +kernel
theorem dX3_mostWith_59 : decode cX3_mostWith 59 = .ok (.istore 4, 2) := by decide +kernel
theorem dX3_mostWith_61 : decode cX3_mostWith 61 = .ok (.goto (-49), 3) := by decide +kernel
theorem dX3_mostWith_64 : decode cX3_mostWith 64 = .ok (.iload_n 3, 1) := by decide +kernel
theorem dX3_mostWith_65 : decode cX3_mostWith 65 = .ok (.ireturn, 1) := by decide +kernel
theorem dX3_setLetIn_0 : decode cX3_setLetIn 0 = .ok (.iload_n 2, 1) := by decide +kernel
theorem dX3_setLetIn_1 : decode cX3_setLetIn 1 = .ok (.istore 4, 2) := by decide +kernel
theorem dX3_setLetIn_3 : decode cX3_setLetIn 3 = .ok (.iconst 0, 1) := by decide +kernel
theorem dX3_setLetIn_4 : decode cX3_setLetIn 4 = .ok (.istore 5, 2) := by decide +kernel
theorem dX3_setLetIn_6 : decode cX3_setLetIn 6 = .ok (.aload_n 1, 1) := by decide +kernel
theorem dX3_setLetIn_7 : decode cX3_setLetIn 7 = .ok (.getfield 62, 3) := by decide +kernel
theorem dX3_setLetIn_10 : decode cX3_setLetIn 10 = .ok (.iconst 1, 1) := by decide +kernel
theorem dX3_setLetIn_11 : decode cX3_setLetIn 11 = .ok (.isub, 1) := by decide +kernel
theorem dX3_setLetIn_12 : decode cX3_setLetIn 12 = .ok (.istore 6, 2) := by decide +kernel
theorem dX3_setLetIn_14 : decode cX3_setLetIn 14 = .ok (.iload 6, 2) := by decide +kernel
theorem dX3_setLetIn_16 : decode cX3_setLetIn 16 = .ok (.iload_n 3, 1) := by decide +kernel
theorem dX3_setLetIn_17 : decode cX3_setLetIn 17 = .ok (.if_icmp .lt 26, 3) := by decide +kernel
theorem dX3_setLetIn_20 : decode cX3_setLetIn 20 = .ok (.aload_n 0, 1) := by decide +kernel
theorem dX3_setLetIn_21 : decode cX3_setLetIn 21 = .ok (.iload 6, 2) := by decide +kernel
theorem dX3_setLetIn_23 : decode cX3_setLetIn 23 = .ok (.iload 4, 2) := by decide +kernel
theorem dX3_setLetIn_25 : decode cX3_setLetIn 25 = .ok (.invokevirtual 74, 3) := by decide +kernel
theorem dX3_setLetIn_28 : decode cX3_setLetIn 28 = .ok (.istore 5, 2) := by decide +kernel
theorem dX3_setLetIn_30 : decode cX3_setLetIn 30 = .ok (.iload 4, 2) := by decide +kernel
theorem dX3_setLetIn_32 : decode cX3_setLetIn 32 = .ok (.iload 5, 2) := by decide +kernel
theorem dX3_setLetIn_34 : decode cX3_setLetIn 34 = .ok (.ixor, 1) := by decide +kernel
theorem dX3_setLetIn_35 : decode cX3_setLetIn 35 = .ok (.istore 4, 2) := by decide +kernel
theorem dX3_setLetIn_37 : decode cX3_setLetIn 37 = .ok (.iinc 6 (-1), 3) := by decide +kernel
theorem dX3_setLetIn_40 : decode cX3_setLetIn 40 = .ok (.goto (-26), 3) := by decide +kernel
theorem dX3_setLetIn_43 : decode cX3_setLetIn 43 = .ok (.iload 5, 2) := by decide +kernel
theorem dX3_setLetIn_45 : decode cX3_setLetIn 45 = .ok (.ireturn, 1) := by decide +kernel
theorem dX3_leastPart_0 : decode cX3_leastPart 0 = .ok (.iconst 0, 1) := by decide +kernel
theorem dX3_leastPart_1 : decode cX3_leastPart 1 = .ok (.istore_n 3, 1) := by decide +kernel
theorem dX3_leastPart_2 : decode cX3_leastPart 2 = .ok (.iload_n 3, 1) := by decide +kernel
theorem dX3_leastPart_3 : decode cX3_leastPart 3 = .ok (.iload_n 2, 1) := by decide +kernel
theorem dX3_leastPart_4 : decode cX3_leastPart 4 = .ok (.if_icmp .gt 61, 3) := by decide +kernel
theorem dX3_leastPart_7 : decode cX3_leastPart 7 = .ok (.aload_n 0, 1) := by decide +kernel
theorem dX3_leastPart_8 : decode cX3_leastPart 8 = .ok (.getfield 11, 3) := by decide +kernel
theorem dX3_leastPart_11 : decode cX3_leastPart 11 = .ok (.iload_n 1, 1) := by decide +kernel
theorem dX3_leastPart_12 : decode cX3_leastPart 12 = .ok (.aaload, 1) := by decide +kernel
theorem dX3_leastPart_13 : decode cX3_leastPart 13 = .ok (.iload_n 3, 1) := by decide +kernel
theorem dX3_leastPart_14 : decode cX3_leastPart 14 = .ok (.iaload, 1) := by decide +kernel
theorem dX3_leastPart_15 : decode cX3_leastPart 15 = .ok (.istore 4, 2) := by decide +kernel
theorem dX3_leastPart_17 : decode cX3_leastPart 17 = .ok (.iload_n 3, 1) := by decide +kernel
theorem dX3_leastPart_18 : decode cX3_leastPart 18 = .ok (.iload_n 2, 1) := by decide +kernel
theorem dX3_leastPart_19 : decode cX3_leastPart 19 = .ok (.iconst (-1), 1) := by decide +kernel
theorem dX3_leastPart_20 : decode cX3_leastPart 20 = .ok (.ixor, 1) := by decide +kernel
theorem dX3_leastPart_21 : decode cX3_leastPart 21 = .ok (.iand, 1) := by decide +kernel
theorem dX3_leastPart_22 : decode cX3_leastPart 22 = .ok (.ifCond .ne 37, 3) := by decide +kernel
theorem dX3_leastPart_25 : decode cX3_leastPart 25 = .ok (.iload 4, 2) := by decide +kernel
theorem dX3_leastPart_27 : decode cX3_leastPart 27 = .ok (.iconst (-1), 1) := by decide +kernel
theorem dX3_leastPart_28 : decode cX3_leastPart 28 = .ok (.if_icmp .eq 31, 3) := by decide +kernel
theorem dX3_leastPart_31 : decode cX3_leastPart 31 = .ok (.iload 4, 2) := by decide +kernel
theorem dX3_leastPart_33 : decode cX3_leastPart 33 = .ok (.aload_n 0, 1) := by decide +kernel
theorem dX3_leastPart_34 : decode cX3_leastPart 34 = .ok (.getfield 16, 3) := by decide +kernel
theorem dX3_leastPart_37 : decode cX3_leastPart 37 = .ok (.iload_n 1, 1) := by decide +kernel
theorem dX3_leastPart_38 : decode cX3_leastPart 38 = .ok (.aaload, 1) := by decide +kernel
theorem dX3_leastPart_39 : decode cX3_leastPart 39 = .ok (.iload_n 2, 1) := by decide +kernel
theorem dX3_leastPart_40 : decode cX3_leastPart 40 = .ok (.iload_n 3, 1) := by decide +kernel
theorem dX3_leastPart_41 : decode cX3_leastPart 41 = .ok (.ixor, 1) := by decide +kernel
theorem dX3_leastPart_42 : decode cX3_leastPart 42 = .ok (.iaload, 1) := by decide +kernel
theorem dX3_leastPart_43 : decode cX3_leastPart 43 = .ok (.iadd, 1) := by decide +kernel
theorem dX3_leastPart_44 : decode cX3_leastPart 44 = .ok (.aload_n 0, 1) := by decide +kernel
theorem dX3_leastPart_45 : decode cX3_leastPart 45 = .ok (.getfield 16, 3) := by decide +kernel
theorem dX3_leastPart_48 : decode cX3_leastPart 48 = .ok (.iload_n 1, 1) := by decide +kernel
theorem dX3_leastPart_49 : decode cX3_leastPart 49 = .ok (.iconst 1, 1) := by decide +kernel
theorem dX3_leastPart_50 : decode cX3_leastPart 50 = .ok (.iadd, 1) := by decide +kernel
theorem dX3_leastPart_51 : decode cX3_leastPart 51 = .ok (.aaload, 1) := by decide +kernel
theorem dX3_leastPart_52 : decode cX3_leastPart 52 = .ok (.iload_n 2, 1) := by decide +kernel
theorem dX3_leastPart_53 : decode cX3_leastPart 53 = .ok (.iaload, 1) := by decide +kernel
theorem dX3_leastPart_54 : decode cX3_leastPart 54 = .ok (.if_icmp .ne 5, 3) := by decide +kernel
theorem dX3_leastPart_57 : decode cX3_leastPart 57 = .ok (.iload_n 3, 1) := by decide +kernel
theorem dX3_leastPart_58 : decode cX3_leastPart 58 = .ok (.ireturn, 1) := by decide +kernel
theorem dX3_leastPart_59 : decode cX3_leastPart 59 = .ok (.iinc 3 1, 3) := by decide +kernel
theorem dX3_leastPart_62 : decode cX3_leastPart 62 = .ok (.goto (-60), 3) := by decide +kernel
theorem dX3_leastPart_65 : decode cX3_leastPart 65 = .ok (.iconst 0, 1) := by decide +kernel
theorem dX3_leastPart_66 : decode cX3_leastPart 66 = .ok (.ireturn, 1) := by decide +kernel
theorem dX3_leastCost_0 : decode cX3_leastCost 0 = .ok (.iconst 0, 1) := by decide +kernel
theorem dX3_leastCost_1 : decode cX3_leastCost 1 = .ok (.istore_n 3, 1) := by decide +kernel
theorem dX3_leastCost_2 : decode cX3_leastCost 2 = .ok (.iload_n 3, 1) := by decide +kernel
theorem dX3_leastCost_3 : decode cX3_leastCost 3 = .ok (.sipush 128, 3) := by decide +kernel
theorem dX3_leastCost_6 : decode cX3_leastCost 6 = .ok (.if_icmp .ge 27, 3) := by decide +kernel
theorem dX3_leastCost_9 : decode cX3_leastCost 9 = .ok (.aload_n 0, 1) := by decide +kernel
theorem dX3_leastCost_10 : decode cX3_leastCost 10 = .ok (.getfield 16, 3) := by decide +kernel
theorem dX3_leastCost_13 : decode cX3_leastCost 13 = .ok (.iconst 0, 1) := by decide +kernel
theorem dX3_leastCost_14 : decode cX3_leastCost 14 = .ok (.aaload, 1) := by decide +kernel
theorem dX3_leastCost_15 : decode cX3_leastCost 15 = .ok (.iload_n 3, 1) := by decide +kernel
theorem dX3_leastCost_16 : decode cX3_leastCost 16 = .ok (.iload_n 3, 1) := by decide +kernel
theorem dX3_leastCost_17 : decode cX3_leastCost 17 = .ok (.ifCond .ne 7, 3) := by decide +kernel
theorem dX3_leastCost_20 : decode cX3_leastCost 20 = .ok (.iconst 0, 1) := by decide +kernel
theorem dX3_leastCost_21 : decode cX3_leastCost 21 = .ok (.goto 5, 3) := by decide +kernel
theorem dX3_leastCost_24 : decode cX3_leastCost 24 = .ok (.ldc 77, 2) := by decide +kernel
theorem dX3_leastCost_26 : decode cX3_leastCost 26 = .ok (.iastore, 1) := by decide +kernel
theorem dX3_leastCost_27 : decode cX3_leastCost 27 = .ok (.iinc 3 1, 3) := by decide +kernel
theorem dX3_leastCost_30 : decode cX3_leastCost 30 = .ok (.goto (-28), 3) := by decide +kernel
theorem dX3_leastCost_33 : decode cX3_leastCost 33 = .ok (.iconst 0, 1) := by decide +kernel
theorem dX3_leastCost_34 : decode cX3_leastCost 34 = .ok (.istore_n 3, 1) := by decide +kernel
theorem dX3_leastCost_35 : decode cX3_leastCost 35 = .ok (.iload_n 3, 1) := by decide +kernel
theorem dX3_leastCost_36 : decode cX3_leastCost 36 = .ok (.aload_n 1, 1) := by decide +kernel
theorem dX3_leastCost_37 : decode cX3_leastCost 37 = .ok (.getfield 62, 3) := by decide +kernel
theorem dX3_leastCost_40 : decode cX3_leastCost 40 = .ok (.if_icmp .ge 58, 3) := by decide +kernel
theorem dX3_leastCost_43 : decode cX3_leastCost 43 = .ok (.aload_n 1, 1) := by decide +kernel
theorem dX3_leastCost_44 : decode cX3_leastCost 44 = .ok (.aload_n 2, 1) := by decide +kernel
theorem dX3_leastCost_45 : decode cX3_leastCost 45 = .ok (.iload_n 3, 1) := by decide +kernel
theorem dX3_leastCost_46 : decode cX3_leastCost 46 = .ok (.invokestatic 23, 3) := by decide +kernel
theorem dX3_leastCost_49 : decode cX3_leastCost 49 = .ok (.istore 4, 2) := by decide +kernel
theorem dX3_leastCost_51 : decode cX3_leastCost 51 = .ok (.iconst 0, 1) := by decide +kernel
theorem dX3_leastCost_52 : decode cX3_leastCost 52 = .ok (.istore 5, 2) := by decide +kernel
theorem dX3_leastCost_54 : decode cX3_leastCost 54 = .ok (.iload 5, 2) := by decide +kernel
theorem dX3_leastCost_56 : decode cX3_leastCost 56 = .ok (.iconst 1, 1) := by decide +kernel
theorem dX3_leastCost_57 : decode cX3_leastCost 57 = .ok (.aload_n 1, 1) := by decide +kernel
theorem dX3_leastCost_58 : decode cX3_leastCost 58 = .ok (.getfield 27, 3) := by decide +kernel
theorem dX3_leastCost_61 : decode cX3_leastCost 61 = .ok (.ishl, 1) := by decide +kernel
theorem dX3_leastCost_62 : decode cX3_leastCost 62 = .ok (.if_icmp .ge 30, 3) := by decide +kernel
theorem dX3_leastCost_65 : decode cX3_leastCost 65 = .ok (.aload_n 0, 1) := by decide +kernel
theorem dX3_leastCost_66 : decode cX3_leastCost 66 = .ok (.getfield 16, 3) := by decide +kernel
theorem dX3_leastCost_69 : decode cX3_leastCost 69 = .ok (.iload_n 3, 1) := by decide +kernel
theorem dX3_leastCost_70 : decode cX3_leastCost 70 = .ok (.iconst 1, 1) := by decide +kernel
theorem dX3_leastCost_71 : decode cX3_leastCost 71 = .ok (.iadd, 1) := by decide +kernel
theorem dX3_leastCost_72 : decode cX3_leastCost 72 = .ok (.aaload, 1) := by decide +kernel
theorem dX3_leastCost_73 : decode cX3_leastCost 73 = .ok (.iload 5, 2) := by decide +kernel
theorem dX3_leastCost_75 : decode cX3_leastCost 75 = .ok (.aload_n 0, 1) := by decide +kernel
theorem dX3_leastCost_76 : decode cX3_leastCost 76 = .ok (.aload_n 1, 1) := by decide +kernel
theorem dX3_leastCost_77 : decode cX3_leastCost 77 = .ok (.iload_n 3, 1) := by decide +kernel
theorem dX3_leastCost_78 : decode cX3_leastCost 78 = .ok (.iload 5, 2) := by decide +kernel
theorem dX3_leastCost_80 : decode cX3_leastCost 80 = .ok (.iload 4, 2) := by decide +kernel
theorem dX3_leastCost_82 : decode cX3_leastCost 82 = .ok (.invokevirtual 78, 3) := by decide +kernel
theorem dX3_leastCost_85 : decode cX3_leastCost 85 = .ok (.iastore, 1) := by decide +kernel
theorem dX3_leastCost_86 : decode cX3_leastCost 86 = .ok (.iinc 5 1, 3) := by decide +kernel
theorem dX3_leastCost_89 : decode cX3_leastCost 89 = .ok (.goto (-35), 3) := by decide +kernel
theorem dX3_leastCost_92 : decode cX3_leastCost 92 = .ok (.iinc 3 1, 3) := by decide +kernel
theorem dX3_leastCost_95 : decode cX3_leastCost 95 = .ok (.goto (-60), 3) := by decide +kernel
theorem dX3_leastCost_98 : decode cX3_leastCost 98 = .ok (.aload_n 0, 1) := by decide +kernel
theorem dX3_leastCost_99 : decode cX3_leastCost 99 = .ok (.getfield 16, 3) := by decide +kernel
theorem dX3_leastCost_102 : decode cX3_leastCost 102 = .ok (.aload_n 1, 1) := by decide +kernel
theorem dX3_leastCost_103 : decode cX3_leastCost 103 = .ok (.getfield 62, 3) := by decide +kernel
theorem dX3_leastCost_106 : decode cX3_leastCost 106 = .ok (.aaload, 1) := by decide +kernel
theorem dX3_leastCost_107 : decode cX3_leastCost 107 = .ok (.aload_n 2, 1) := by decide +kernel
theorem dX3_leastCost_108 : decode cX3_leastCost 108 = .ok (.aload_n 1, 1) := by decide +kernel
theorem dX3_leastCost_109 : decode cX3_leastCost 109 = .ok (.invokevirtual 82, 3) := by decide +kernel
theorem dX3_leastCost_112 : decode cX3_leastCost 112 = .ok (.iaload, 1) := by decide +kernel
theorem dX3_leastCost_113 : decode cX3_leastCost 113 = .ok (.ireturn, 1) := by decide +kernel
theorem dX3_leastWith_0 : decode cX3_leastWith 0 = .ok (.aload_n 0, 1) := by decide +kernel
theorem dX3_leastWith_1 : decode cX3_leastWith 1 = .ok (.getfield 16, 3) := by decide +kernel
theorem dX3_leastWith_4 : decode cX3_leastWith 4 = .ok (.iload_n 2, 1) := by decide +kernel
theorem dX3_leastWith_5 : decode cX3_leastWith 5 = .ok (.aaload, 1) := by decide +kernel
theorem dX3_leastWith_6 : decode cX3_leastWith 6 = .ok (.iload_n 3, 1) := by decide +kernel
theorem dX3_leastWith_7 : decode cX3_leastWith 7 = .ok (.iaload, 1) := by decide +kernel
theorem dX3_leastWith_8 : decode cX3_leastWith 8 = .ok (.istore 5, 2) := by decide +kernel
theorem dX3_leastWith_10 : decode cX3_leastWith 10 = .ok (.iload_n 3, 1) := by decide +kernel
theorem dX3_leastWith_11 : decode cX3_leastWith 11 = .ok (.iload 4, 2) := by decide +kernel
theorem dX3_leastWith_13 : decode cX3_leastWith 13 = .ok (.iand, 1) := by decide +kernel
theorem dX3_leastWith_14 : decode cX3_leastWith 14 = .ok (.istore 6, 2) := by decide +kernel
theorem dX3_leastWith_16 : decode cX3_leastWith 16 = .ok (.iload 6, 2) := by decide +kernel
theorem dX3_leastWith_18 : decode cX3_leastWith 18 = .ok (.ifCond .le 52, 3) := by decide +kernel
theorem dX3_leastWith_21 : decode cX3_leastWith 21 = .ok (.aload_n 1, 1) := by decide +kernel
theorem dX3_leastWith_22 : decode cX3_leastWith 22 = .ok (.getfield 39, 3) := by decide +kernel
theorem dX3_leastWith_25 : decode cX3_leastWith 25 = .ok (.iload 6, 2) := by decide +kernel
theorem dX3_leastWith_27 : decode cX3_leastWith 27 = .ok (.baload, 1) := by decide +kernel
theorem dX3_leastWith_28 : decode cX3_leastWith 28 = .ok (.ifCond .eq 28, 3) := by decide +kernel
theorem dX3_leastWith_31 : decode cX3_leastWith 31 = .ok (.iload 5, 2) := by decide +kernel
theorem dX3_leastWith_33 : decode cX3_leastWith 33 = .ok (.aload_n 0, 1) := by decide +kernel
theorem dX3_leastWith_34 : decode cX3_leastWith 34 = .ok (.getfield 16, 3) := by decide +kernel
theorem dX3_leastWith_37 : decode cX3_leastWith 37 = .ok (.iload_n 2, 1) := by decide +kernel
theorem dX3_leastWith_38 : decode cX3_leastWith 38 = .ok (.aaload, 1) := by decide +kernel
theorem dX3_leastWith_39 : decode cX3_leastWith 39 = .ok (.iload_n 3, 1) := by decide +kernel
theorem dX3_leastWith_40 : decode cX3_leastWith 40 = .ok (.iload 6, 2) := by decide +kernel
theorem dX3_leastWith_42 : decode cX3_leastWith 42 = .ok (.ixor, 1) := by decide +kernel
theorem dX3_leastWith_43 : decode cX3_leastWith 43 = .ok (.iaload, 1) := by decide +kernel
theorem dX3_leastWith_44 : decode cX3_leastWith 44 = .ok (.bipush 16, 2) := by decide +kernel
theorem dX3_leastWith_46 : decode cX3_leastWith 46 = .ok (.iadd, 1) := by decide +kernel
theorem dX3_leastWith_47 : decode cX3_leastWith 47 = .ok (.iconst 1, 1) := by decide +kernel
theorem dX3_leastWith_48 : decode cX3_leastWith 48 = .ok (.iload_n 2, 1) := by decide +kernel
theorem dX3_leastWith_49 : decode cX3_leastWith 49 = .ok (.ishl, 1) := by decide +kernel
theorem dX3_leastWith_50 : decode cX3_leastWith 50 = .ok (.iadd, 1) := by decide +kernel
theorem dX3_leastWith_51 : decode cX3_leastWith 51 = .ok (.invokestatic 86, 3) := by decide +kernel
theorem dX3_leastWith_54 : decode cX3_leastWith 54 = .ok (.istore 5, 2) := by decide +kernel
theorem dX3_leastWith_56 : decode cX3_leastWith 56 = .ok (.iload 6, 2) := by decide +kernel
theorem dX3_leastWith_58 : decode cX3_leastWith 58 = .ok (.iconst 1, 1) := by decide +kernel
theorem dX3_leastWith_59 : decode cX3_leastWith 59 = .ok (.isub, 1) := by decide +kernel
theorem dX3_leastWith_60 : decode cX3_leastWith 60 = .ok (.iload_n 3, 1) := by decide +kernel
theorem dX3_leastWith_61 : decode cX3_leastWith 61 = .ok (.iand, 1) := by decide +kernel
theorem dX3_leastWith_62 : decode cX3_leastWith 62 = .ok (.iload 4, 2) := by decide +kernel
theorem dX3_leastWith_64 : decode cX3_leastWith 64 = .ok (.iand, 1) := by decide +kernel
theorem dX3_leastWith_65 : decode cX3_leastWith 65 = .ok (.istore 6, 2) := by decide +kernel
theorem dX3_leastWith_67 : decode cX3_leastWith 67 = .ok (.goto (-51), 3) := by decide +kernel
theorem dX3_leastWith_70 : decode cX3_leastWith 70 = .ok (.iload 5, 2) := by decide +kernel
theorem dX3_leastWith_72 : decode cX3_leastWith 72 = .ok (.ireturn, 1) := by decide +kernel
theorem dX3_fewestColours_0 : decode cX3_fewestColours 0 = .ok (.aload_n 0, 1) := by decide +kernel
theorem dX3_fewestColours_1 : decode cX3_fewestColours 1 = .ok (.getfield 16, 3) := by decide +kernel
theorem dX3_fewestColours_4 : decode cX3_fewestColours 4 = .ok (.iconst 0, 1) := by decide +kernel
theorem dX3_fewestColours_5 : decode cX3_fewestColours 5 = .ok (.aaload, 1) := by decide +kernel
theorem dX3_fewestColours_6 : decode cX3_fewestColours 6 = .ok (.astore_n 3, 1) := by decide +kernel
theorem dX3_fewestColours_7 : decode cX3_fewestColours 7 = .ok (.aload_n 3, 1) := by decide +kernel
theorem dX3_fewestColours_8 : decode cX3_fewestColours 8 = .ok (.iconst 0, 1) := by decide +kernel
theorem dX3_fewestColours_9 : decode cX3_fewestColours 9 = .ok (.iconst 0, 1) := by decide +kernel
theorem dX3_fewestColours_10 : decode cX3_fewestColours 10 = .ok (.iastore, 1) := by decide +kernel
theorem dX3_fewestColours_11 : decode cX3_fewestColours 11 = .ok (.iconst 1, 1) := by decide +kernel
theorem dX3_fewestColours_12 : decode cX3_fewestColours 12 = .ok (.istore 4, 2) := by decide +kernel
theorem dX3_fewestColours_14 : decode cX3_fewestColours 14 = .ok (.iload 4, 2) := by decide +kernel
theorem dX3_fewestColours_16 : decode cX3_fewestColours 16 = .ok (.iload_n 2, 1) := by decide +kernel
theorem dX3_fewestColours_17 : decode cX3_fewestColours 17 = .ok (.if_icmp .gt 66, 3) := by decide +kernel
theorem dX3_fewestColours_20 : decode cX3_fewestColours 20 = .ok (.aload_n 3, 1) := by decide +kernel
theorem dX3_fewestColours_21 : decode cX3_fewestColours 21 = .ok (.iload 4, 2) := by decide +kernel
theorem dX3_fewestColours_23 : decode cX3_fewestColours 23 = .ok (.bipush 7, 2) := by decide +kernel
theorem dX3_fewestColours_25 : decode cX3_fewestColours 25 = .ok (.iastore, 1) := by decide +kernel
theorem dX3_fewestColours_26 : decode cX3_fewestColours 26 = .ok (.iload 4, 2) := by decide +kernel
theorem dX3_fewestColours_28 : decode cX3_fewestColours 28 = .ok (.istore 5, 2) := by decide +kernel
theorem dX3_fewestColours_30 : decode cX3_fewestColours 30 = .ok (.iload 5, 2) := by decide +kernel
theorem dX3_fewestColours_32 : decode cX3_fewestColours 32 = .ok (.ifCond .le 45, 3) := by decide +kernel
theorem dX3_fewestColours_35 : decode cX3_fewestColours 35 = .ok (.aload_n 1, 1) := by decide +kernel
theorem dX3_fewestColours_36 : decode cX3_fewestColours 36 = .ok (.getfield 39, 3) := by decide +kernel
theorem dX3_fewestColours_39 : decode cX3_fewestColours 39 = .ok (.iload 5, 2) := by decide +kernel
theorem dX3_fewestColours_41 : decode cX3_fewestColours 41 = .ok (.baload, 1) := by decide +kernel
theorem dX3_fewestColours_42 : decode cX3_fewestColours 42 = .ok (.ifCond .eq 23, 3) := by decide +kernel
theorem dX3_fewestColours_45 : decode cX3_fewestColours 45 = .ok (.aload_n 3, 1) := by decide +kernel
theorem dX3_fewestColours_46 : decode cX3_fewestColours 46 = .ok (.iload 4, 2) := by decide +kernel
theorem dX3_fewestColours_48 : decode cX3_fewestColours 48 = .ok (.aload_n 3, 1) := by decide +kernel
theorem dX3_fewestColours_49 : decode cX3_fewestColours 49 = .ok (.iload 4, 2) := by decide +kernel
theorem dX3_fewestColours_51 : decode cX3_fewestColours 51 = .ok (.iaload, 1) := by decide +kernel
theorem dX3_fewestColours_52 : decode cX3_fewestColours 52 = .ok (.aload_n 3, 1) := by decide +kernel
theorem dX3_fewestColours_53 : decode cX3_fewestColours 53 = .ok (.iload 4, 2) := by decide +kernel
theorem dX3_fewestColours_55 : decode cX3_fewestColours 55 = .ok (.iload 5, 2) := by decide +kernel
theorem dX3_fewestColours_57 : decode cX3_fewestColours 57 = .ok (.ixor, 1) := by decide +kernel
theorem dX3_fewestColours_58 : decode cX3_fewestColours 58 = .ok (.iaload, 1) := by decide +kernel
theorem dX3_fewestColours_59 : decode cX3_fewestColours 59 = .ok (.iconst 1, 1) := by decide +kernel
theorem dX3_fewestColours_60 : decode cX3_fewestColours 60 = .ok (.iadd, 1) := by decide +kernel
theorem dX3_fewestColours_61 : decode cX3_fewestColours 61 = .ok (.invokestatic 86, 3) := by decide +kernel
theorem dX3_fewestColours_64 : decode cX3_fewestColours 64 = .ok (.iastore, 1) := by decide +kernel
theorem dX3_fewestColours_65 : decode cX3_fewestColours 65 = .ok (.iload 5, 2) := by decide +kernel
theorem dX3_fewestColours_67 : decode cX3_fewestColours 67 = .ok (.iconst 1, 1) := by decide +kernel
theorem dX3_fewestColours_68 : decode cX3_fewestColours 68 = .ok (.isub, 1) := by decide +kernel
theorem dX3_fewestColours_69 : decode cX3_fewestColours 69 = .ok (.iload 4, 2) := by decide +kernel
theorem dX3_fewestColours_71 : decode cX3_fewestColours 71 = .ok (.iand, 1) := by decide +kernel
theorem dX3_fewestColours_72 : decode cX3_fewestColours 72 = .ok (.istore 5, 2) := by decide +kernel
theorem dX3_fewestColours_74 : decode cX3_fewestColours 74 = .ok (.goto (-44), 3) := by decide +kernel
theorem dX3_fewestColours_77 : decode cX3_fewestColours 77 = .ok (.iinc 4 1, 3) := by decide +kernel
theorem dX3_fewestColours_80 : decode cX3_fewestColours 80 = .ok (.goto (-66), 3) := by decide +kernel
theorem dX3_fewestColours_83 : decode cX3_fewestColours 83 = .ok (.aload_n 3, 1) := by decide +kernel
theorem dX3_fewestColours_84 : decode cX3_fewestColours 84 = .ok (.iload_n 2, 1) := by decide +kernel
theorem dX3_fewestColours_85 : decode cX3_fewestColours 85 = .ok (.iaload, 1) := by decide +kernel
theorem dX3_fewestColours_86 : decode cX3_fewestColours 86 = .ok (.ireturn, 1) := by decide +kernel
theorem dX3_largestTangle_0 : decode cX3_largestTangle 0 = .ok (.iconst 0, 1) := by decide +kernel
theorem dX3_largestTangle_1 : decode cX3_largestTangle 1 = .ok (.istore_n 3, 1) := by decide +kernel
theorem dX3_largestTangle_2 : decode cX3_largestTangle 2 = .ok (.iconst 1, 1) := by decide +kernel
theorem dX3_largestTangle_3 : decode cX3_largestTangle 3 = .ok (.istore 4, 2) := by decide +kernel
theorem dX3_largestTangle_5 : decode cX3_largestTangle 5 = .ok (.iload 4, 2) := by decide +kernel
theorem dX3_largestTangle_7 : decode cX3_largestTangle 7 = .ok (.iload_n 2, 1) := by decide +kernel
theorem dX3_largestTangle_8 : decode cX3_largestTangle 8 = .ok (.if_icmp .gt 42, 3) := by decide +kernel
theorem dX3_largestTangle_11 : decode cX3_largestTangle 11 = .ok (.iload 4, 2) := by decide +kernel
theorem dX3_largestTangle_13 : decode cX3_largestTangle 13 = .ok (.iload_n 2, 1) := by decide +kernel
theorem dX3_largestTangle_14 : decode cX3_largestTangle 14 = .ok (.iconst (-1), 1) := by decide +kernel
theorem dX3_largestTangle_15 : decode cX3_largestTangle 15 = .ok (.ixor, 1) := by decide +kernel
theorem dX3_largestTangle_16 : decode cX3_largestTangle 16 = .ok (.iand, 1) := by decide +kernel
theorem dX3_largestTangle_17 : decode cX3_largestTangle 17 = .ok (.ifCond .ne 27, 3) := by decide +kernel
theorem dX3_largestTangle_20 : decode cX3_largestTangle 20 = .ok (.iload 4, 2) := by decide +kernel
theorem dX3_largestTangle_22 : decode cX3_largestTangle 22 = .ok (.invokestatic 89, 3) := by decide +kernel
theorem dX3_largestTangle_25 : decode cX3_largestTangle 25 = .ok (.iload_n 3, 1) := by decide +kernel
theorem dX3_largestTangle_26 : decode cX3_largestTangle 26 = .ok (.invokestatic 89, 3) := by decide +kernel
theorem dX3_largestTangle_29 : decode cX3_largestTangle 29 = .ok (.if_icmp .le 15, 3) := by decide +kernel
theorem dX3_largestTangle_32 : decode cX3_largestTangle 32 = .ok (.aload_n 1, 1) := by decide +kernel
theorem dX3_largestTangle_33 : decode cX3_largestTangle 33 = .ok (.iload 4, 2) := by decide +kernel
theorem dX3_largestTangle_35 : decode cX3_largestTangle 35 = .ok (.invokestatic 92, 3) := by decide +kernel
theorem dX3_largestTangle_38 : decode cX3_largestTangle 38 = .ok (.ifCond .eq 6, 3) := by decide +kernel
theorem dX3_largestTangle_41 : decode cX3_largestTangle 41 = .ok (.iload 4, 2) := by decide +kernel
theorem dX3_largestTangle_43 : decode cX3_largestTangle 43 = .ok (.istore_n 3, 1) := by decide +kernel
theorem dX3_largestTangle_44 : decode cX3_largestTangle 44 = .ok (.iinc 4 1, 3) := by decide +kernel
theorem dX3_largestTangle_47 : decode cX3_largestTangle 47 = .ok (.goto (-42), 3) := by decide +kernel
theorem dX3_largestTangle_50 : decode cX3_largestTangle 50 = .ok (.iload_n 3, 1) := by decide +kernel
theorem dX3_largestTangle_51 : decode cX3_largestTangle 51 = .ok (.ireturn, 1) := by decide +kernel
theorem dX3_isTangle_0 : decode cX3_isTangle 0 = .ok (.iconst 0, 1) := by decide +kernel
theorem dX3_isTangle_1 : decode cX3_isTangle 1 = .ok (.istore_n 2, 1) := by decide +kernel
theorem dX3_isTangle_2 : decode cX3_isTangle 2 = .ok (.iload_n 2, 1) := by decide +kernel
theorem dX3_isTangle_3 : decode cX3_isTangle 3 = .ok (.aload_n 0, 1) := by decide +kernel
theorem dX3_isTangle_4 : decode cX3_isTangle 4 = .ok (.getfield 27, 3) := by decide +kernel
theorem dX3_isTangle_7 : decode cX3_isTangle 7 = .ok (.if_icmp .ge 36, 3) := by decide +kernel
theorem dX3_isTangle_10 : decode cX3_isTangle 10 = .ok (.iload_n 1, 1) := by decide +kernel
theorem dX3_isTangle_11 : decode cX3_isTangle 11 = .ok (.iload_n 2, 1) := by decide +kernel
theorem dX3_isTangle_12 : decode cX3_isTangle 12 = .ok (.ishr, 1) := by decide +kernel
theorem dX3_isTangle_13 : decode cX3_isTangle 13 = .ok (.iconst 1, 1) := by decide +kernel
theorem dX3_isTangle_14 : decode cX3_isTangle 14 = .ok (.iand, 1) := by decide +kernel
theorem dX3_isTangle_15 : decode cX3_isTangle 15 = .ok (.iconst 1, 1) := by decide +kernel
theorem dX3_isTangle_16 : decode cX3_isTangle 16 = .ok (.if_icmp .ne 21, 3) := by decide +kernel
theorem dX3_isTangle_19 : decode cX3_isTangle 19 = .ok (.iload_n 1, 1) := by decide +kernel
theorem dX3_isTangle_20 : decode cX3_isTangle 20 = .ok (.aload_n 0, 1) := by decide +kernel
theorem dX3_isTangle_21 : decode cX3_isTangle 21 = .ok (.getfield 96, 3) := by decide +kernel
theorem dX3_isTangle_24 : decode cX3_isTangle 24 = .ok (.iload_n 2, 1) := by decide +kernel
theorem dX3_isTangle_25 : decode cX3_isTangle 25 = .ok (.iaload, 1) := by decide +kernel
theorem dX3_isTangle_26 : decode cX3_isTangle 26 = .ok (.iconst (-1), 1) := by decide +kernel
theorem dX3_isTangle_27 : decode cX3_isTangle 27 = .ok (.ixor, 1) := by decide +kernel
theorem dX3_isTangle_28 : decode cX3_isTangle 28 = .ok (.iand, 1) := by decide +kernel
theorem dX3_isTangle_29 : decode cX3_isTangle 29 = .ok (.iconst 1, 1) := by decide +kernel
theorem dX3_isTangle_30 : decode cX3_isTangle 30 = .ok (.iload_n 2, 1) := by decide +kernel
theorem dX3_isTangle_31 : decode cX3_isTangle 31 = .ok (.ishl, 1) := by decide +kernel
theorem dX3_isTangle_32 : decode cX3_isTangle 32 = .ok (.if_icmp .eq 5, 3) := by decide +kernel
theorem dX3_isTangle_35 : decode cX3_isTangle 35 = .ok (.iconst 0, 1) := by decide +kernel
theorem dX3_isTangle_36 : decode cX3_isTangle 36 = .ok (.ireturn, 1) := by decide +kernel
theorem dX3_isTangle_37 : decode cX3_isTangle 37 = .ok (.iinc 2 1, 3) := by decide +kernel
theorem dX3_isTangle_40 : decode cX3_isTangle 40 = .ok (.goto (-38), 3) := by decide +kernel
theorem dX3_isTangle_43 : decode cX3_isTangle 43 = .ok (.iconst 1, 1) := by decide +kernel
theorem dX3_isTangle_44 : decode cX3_isTangle 44 = .ok (.ireturn, 1) := by decide +kernel
theorem dX4_init_0 : decode cX4_init 0 = .ok (.aload_n 0, 1) := by decide +kernel
theorem dX4_init_1 : decode cX4_init 1 = .ok (.invokespecial 3, 3) := by decide +kernel
theorem dX4_init_4 : decode cX4_init 4 = .ok (.aload_n 0, 1) := by decide +kernel
theorem dX4_init_5 : decode cX4_init 5 = .ok (.iconst 0, 1) := by decide +kernel
theorem dX4_init_6 : decode cX4_init 6 = .ok (.putfield 9, 3) := by decide +kernel
theorem dX4_init_9 : decode cX4_init 9 = .ok (.aload_n 0, 1) := by decide +kernel
theorem dX4_init_10 : decode cX4_init 10 = .ok (.iconst (-1), 1) := by decide +kernel
theorem dX4_init_11 : decode cX4_init 11 = .ok (.putfield 15, 3) := by decide +kernel
theorem dX4_init_14 : decode cX4_init 14 = .ok (.aload_n 0, 1) := by decide +kernel
theorem dX4_init_15 : decode cX4_init 15 = .ok (.new 18, 3) := by decide +kernel
theorem dX4_init_18 : decode cX4_init 18 = .ok (.dup, 1) := by decide +kernel
theorem dX4_init_19 : decode cX4_init 19 = .ok (.invokespecial 20, 3) := by decide +kernel
theorem dX4_init_22 : decode cX4_init 22 = .ok (.putfield 21, 3) := by decide +kernel
theorem dX4_init_25 : decode cX4_init 25 = .ok (.aload_n 0, 1) := by decide +kernel
theorem dX4_init_26 : decode cX4_init 26 = .ok (.iconst 0, 1) := by decide +kernel
theorem dX4_init_27 : decode cX4_init 27 = .ok (.putfield 25, 3) := by decide +kernel
theorem dX4_init_30 : decode cX4_init 30 = .ok (.aload_n 0, 1) := by decide +kernel
theorem dX4_init_31 : decode cX4_init 31 = .ok (.iconst 0, 1) := by decide +kernel
theorem dX4_init_32 : decode cX4_init 32 = .ok (.putfield 28, 3) := by decide +kernel
theorem dX4_init_35 : decode cX4_init 35 = .ok (.aload_n 0, 1) := by decide +kernel
theorem dX4_init_36 : decode cX4_init 36 = .ok (.iconst (-1), 1) := by decide +kernel
theorem dX4_init_37 : decode cX4_init 37 = .ok (.putfield 31, 3) := by decide +kernel
theorem dX4_init_40 : decode cX4_init 40 = .ok (.return_, 1) := by decide +kernel
theorem dX4_readTape_0 : decode cX4_readTape 0 = .ok (.aload_n 0, 1) := by decide +kernel
theorem dX4_readTape_1 : decode cX4_readTape 1 = .ok (.iconst 0, 1) := by decide +kernel
theorem dX4_readTape_2 : decode cX4_readTape 2 = .ok (.putfield 9, 3) := by decide +kernel
theorem dX4_readTape_5 : decode cX4_readTape 5 = .ok (.aload_n 0, 1) := by decide +kernel
theorem dX4_readTape_6 : decode cX4_readTape 6 = .ok (.iconst 0, 1) := by decide +kernel
theorem dX4_readTape_7 : decode cX4_readTape 7 = .ok (.putfield 28, 3) := by decide +kernel
theorem dX4_readTape_10 : decode cX4_readTape 10 = .ok (.aload_n 0, 1) := by decide +kernel
theorem dX4_readTape_11 : decode cX4_readTape 11 = .ok (.iconst (-1), 1) := by decide +kernel
theorem dX4_readTape_12 : decode cX4_readTape 12 = .ok (.putfield 31, 3) := by decide +kernel
theorem dX4_readTape_15 : decode cX4_readTape 15 = .ok (.aload_n 0, 1) := by decide +kernel
theorem dX4_readTape_16 : decode cX4_readTape 16 = .ok (.iconst 0, 1) := by decide +kernel
theorem dX4_readTape_17 : decode cX4_readTape 17 = .ok (.putfield 25, 3) := by decide +kernel
theorem dX4_readTape_20 : decode cX4_readTape 20 = .ok (.aload_n 2, 1) := by decide +kernel
theorem dX4_readTape_21 : decode cX4_readTape 21 = .ok (.invokevirtual 34, 3) := by decide +kernel
theorem dX4_readTape_24 : decode cX4_readTape 24 = .ok (.aload_n 0, 1) := by decide +kernel
theorem dX4_readTape_25 : decode cX4_readTape 25 = .ok (.getfield 21, 3) := by decide +kernel
theorem dX4_readTape_28 : decode cX4_readTape 28 = .ok (.aload_n 1, 1) := by decide +kernel
theorem dX4_readTape_29 : decode cX4_readTape 29 = .ok (.invokevirtual 39, 3) := by decide +kernel
theorem dX4_readTape_32 : decode cX4_readTape 32 = .ok (.iconst 1, 1) := by decide +kernel
theorem dX4_readTape_33 : decode cX4_readTape 33 = .ok (.istore_n 3, 1) := by decide +kernel
theorem dX4_readTape_34 : decode cX4_readTape 34 = .ok (.iconst 0, 1) := by decide +kernel
theorem dX4_readTape_35 : decode cX4_readTape 35 = .ok (.istore 4, 2) := by decide +kernel
theorem dX4_readTape_37 : decode cX4_readTape 37 = .ok (.iload 4, 2) := by decide +kernel
theorem dX4_readTape_39 : decode cX4_readTape 39 = .ok (.sipush 400, 3) := by decide +kernel
theorem dX4_readTape_42 : decode cX4_readTape 42 = .ok (.if_icmp .gt 26, 3) := by decide +kernel
theorem dX4_readTape_45 : decode cX4_readTape 45 = .ok (.iload_n 3, 1) := by decide +kernel
theorem dX4_readTape_46 : decode cX4_readTape 46 = .ok (.ifCond .eq 22, 3) := by decide +kernel
theorem dX4_readTape_49 : decode cX4_readTape 49 = .ok (.aload_n 0, 1) := by decide +kernel
theorem dX4_readTape_50 : decode cX4_readTape 50 = .ok (.invokevirtual 43, 3) := by decide +kernel
theorem dX4_readTape_53 : decode cX4_readTape 53 = .ok (.ifCond .eq 15, 3) := by decide +kernel
theorem dX4_readTape_56 : decode cX4_readTape 56 = .ok (.aload_n 0, 1) := by decide +kernel
theorem dX4_readTape_57 : decode cX4_readTape 57 = .ok (.aload_n 2, 1) := by decide +kernel
theorem dX4_readTape_58 : decode cX4_readTape 58 = .ok (.invokevirtual 47, 3) := by decide +kernel
theorem dX4_readTape_61 : decode cX4_readTape 61 = .ok (.istore_n 3, 1) := by decide +kernel
theorem dX4_readTape_62 : decode cX4_readTape 62 = .ok (.iinc 4 1, 3) := by decide +kernel
theorem dX4_readTape_65 : decode cX4_readTape 65 = .ok (.goto (-28), 3) := by decide +kernel
theorem dX4_readTape_68 : decode cX4_readTape 68 = .ok (.iload_n 3, 1) := by decide +kernel
theorem dX4_readTape_69 : decode cX4_readTape 69 = .ok (.ifCond .eq 22, 3) := by decide +kernel
theorem dX4_readTape_72 : decode cX4_readTape 72 = .ok (.aload_n 0, 1) := by decide +kernel
theorem dX4_readTape_73 : decode cX4_readTape 73 = .ok (.aload_n 0, 1) := by decide +kernel
theorem dX4_readTape_74 : decode cX4_readTape 74 = .ok (.getfield 28, 3) := by decide +kernel
theorem dX4_readTape_77 : decode cX4_readTape 77 = .ok (.putfield 9, 3) := by decide +kernel
theorem dX4_readTape_80 : decode cX4_readTape 80 = .ok (.aload_n 0, 1) := by decide +kernel
theorem dX4_readTape_81 : decode cX4_readTape 81 = .ok (.aload_n 0, 1) := by decide +kernel
theorem dX4_readTape_82 : decode cX4_readTape 82 = .ok (.getfield 31, 3) := by decide +kernel
theorem dX4_readTape_85 : decode cX4_readTape 85 = .ok (.putfield 15, 3) := by decide +kernel
theorem dX4_readTape_88 : decode cX4_readTape 88 = .ok (.goto 19, 3) := by decide +kernel
theorem dX4_readTape_91 : decode cX4_readTape 91 = .ok (.aload_n 0, 1) := by decide +kernel
theorem dX4_readTape_92 : decode cX4_readTape 92 = .ok (.aload_n 0, 1) := by decide +kernel
theorem dX4_readTape_93 : decode cX4_readTape 93 = .ok (.getfield 21, 3) := by decide +kernel
theorem dX4_readTape_96 : decode cX4_readTape 96 = .ok (.getfield 51, 3) := by decide +kernel
theorem dX4_readTape_99 : decode cX4_readTape 99 = .ok (.aload_n 0, 1) := by decide +kernel
theorem dX4_readTape_100 : decode cX4_readTape 100 = .ok (.getfield 25, 3) := by decide +kernel
theorem dX4_readTape_103 : decode cX4_readTape 103 = .ok (.iaload, 1) := by decide +kernel
theorem dX4_readTape_104 : decode cX4_readTape 104 = .ok (.putfield 15, 3) := by decide +kernel
theorem dX4_readTape_107 : decode cX4_readTape 107 = .ok (.aload_n 0, 1) := by decide +kernel
theorem dX4_readTape_108 : decode cX4_readTape 108 = .ok (.getfield 9, 3) := by decide +kernel
theorem dX4_readTape_111 : decode cX4_readTape 111 = .ok (.ifCond .ne 7, 3) := by decide +kernel
theorem dX4_readTape_114 : decode cX4_readTape 114 = .ok (.aload_n 2, 1) := by decide +kernel
theorem dX4_readTape_115 : decode cX4_readTape 115 = .ok (.invokevirtual 55, 3) := by decide +kernel
theorem dX4_readTape_118 : decode cX4_readTape 118 = .ok (.return_, 1) := by decide +kernel
theorem dX4_kind_0 : decode cX4_kind 0 = .ok (.aload_n 0, 1) := by decide +kernel
theorem dX4_kind_1 : decode cX4_kind 1 = .ok (.getfield 21, 3) := by decide +kernel
theorem dX4_kind_4 : decode cX4_kind 4 = .ok (.getfield 58, 3) := by decide +kernel
theorem dX4_kind_7 : decode cX4_kind 7 = .ok (.aload_n 0, 1) := by decide +kernel
theorem dX4_kind_8 : decode cX4_kind 8 = .ok (.getfield 25, 3) := by decide +kernel
theorem dX4_kind_11 : decode cX4_kind 11 = .ok (.iaload, 1) := by decide +kernel
theorem dX4_kind_12 : decode cX4_kind 12 = .ok (.ireturn, 1) := by decide +kernel
theorem dX4_readTell_0 : decode cX4_readTell 0 = .ok (.aload_n 0, 1) := by decide +kernel
theorem dX4_readTell_1 : decode cX4_readTell 1 = .ok (.invokevirtual 43, 3) := by decide +kernel
theorem dX4_readTell_4 : decode cX4_readTell 4 = .ok (.istore_n 2, 1) := by decide +kernel
theorem dX4_readTell_5 : decode cX4_readTell 5 = .ok (.iload_n 2, 1) := by decide +kernel
theorem dX4_readTell_6 : decode cX4_readTell 6 = .ok (.bipush 13, 2) := by decide +kernel
theorem dX4_readTell_8 : decode cX4_readTell 8 = .ok (.if_icmp .ne 9, 3) := by decide +kernel
theorem dX4_readTell_11 : decode cX4_readTell 11 = .ok (.aload_n 0, 1) := by decide +kernel
theorem dX4_readTell_12 : decode cX4_readTell 12 = .ok (.aload_n 1, 1) := by decide +kernel
theorem dX4_readTell_13 : decode cX4_readTell 13 = .ok (.invokevirtual 61, 3) := by decide +kernel
theorem dX4_readTell_16 : decode cX4_readTell 16 = .ok (.ireturn, 1) := by decide +kernel
theorem dX4_readTell_17 : decode cX4_readTell 17 = .ok (.iload_n 2, 1) := by decide +kernel
theorem dX4_readTell_18 : decode cX4_readTell 18 = .ok (.bipush 14, 2) := by decide +kernel
theorem dX4_readTell_20 : decode cX4_readTell 20 = .ok (.if_icmp .ne 9, 3) := by decide +kernel
theorem dX4_readTell_23 : decode cX4_readTell 23 = .ok (.aload_n 0, 1) := by decide +kernel
theorem dX4_readTell_24 : decode cX4_readTell 24 = .ok (.aload_n 1, 1) := by decide +kernel
theorem dX4_readTell_25 : decode cX4_readTell 25 = .ok (.invokevirtual 64, 3) := by decide +kernel
theorem dX4_readTell_28 : decode cX4_readTell 28 = .ok (.ireturn, 1) := by decide +kernel
theorem dX4_readTell_29 : decode cX4_readTell 29 = .ok (.iload_n 2, 1) := by decide +kernel
theorem dX4_readTell_30 : decode cX4_readTell 30 = .ok (.bipush 15, 2) := by decide +kernel
theorem dX4_readTell_32 : decode cX4_readTell 32 = .ok (.if_icmp .ne 9, 3) := by decide +kernel
theorem dX4_readTell_35 : decode cX4_readTell 35 = .ok (.aload_n 0, 1) := by decide +kernel
theorem dX4_readTell_36 : decode cX4_readTell 36 = .ok (.aload_n 1, 1) := by decide +kernel
theorem dX4_readTell_37 : decode cX4_readTell 37 = .ok (.invokevirtual 67, 3) := by decide +kernel
theorem dX4_readTell_40 : decode cX4_readTell 40 = .ok (.ireturn, 1) := by decide +kernel
theorem dX4_readTell_41 : decode cX4_readTell 41 = .ok (.iload_n 2, 1) := by decide +kernel
theorem dX4_readTell_42 : decode cX4_readTell 42 = .ok (.bipush 16, 2) := by decide +kernel
theorem dX4_readTell_44 : decode cX4_readTell 44 = .ok (.if_icmp .lt 22, 3) := by decide +kernel
theorem dX4_readTell_47 : decode cX4_readTell 47 = .ok (.iload_n 2, 1) := by decide +kernel
theorem dX4_readTell_48 : decode cX4_readTell 48 = .ok (.bipush 19, 2) := by decide +kernel
theorem dX4_readTell_50 : decode cX4_readTell 50 = .ok (.if_icmp .gt 16, 3) := by decide +kernel
theorem dX4_readTell_53 : decode cX4_readTell 53 = .ok (.aload_n 0, 1) := by decide +kernel
theorem dX4_readTell_54 : decode cX4_readTell 54 = .ok (.aload_n 1, 1) := by decide +kernel
theorem dX4_readTell_55 : decode cX4_readTell 55 = .ok (.getfield 70, 3) := by decide +kernel
theorem dX4_readTell_58 : decode cX4_readTell 58 = .ok (.iload_n 2, 1) := by decide +kernel
theorem dX4_readTell_59 : decode cX4_readTell 59 = .ok (.bipush 16, 2) := by decide +kernel
theorem dX4_readTell_61 : decode cX4_readTell 61 = .ok (.isub, 1) := by decide +kernel
theorem dX4_readTell_62 : decode cX4_readTell 62 = .ok (.invokevirtual 74, 3) := by decide +kernel
theorem dX4_readTell_65 : decode cX4_readTell 65 = .ok (.ireturn, 1) := by decide +kernel
theorem dX4_readTell_66 : decode cX4_readTell 66 = .ok (.iload_n 2, 1) := by decide +kernel
theorem dX4_readTell_67 : decode cX4_readTell 67 = .ok (.bipush 20, 2) := by decide +kernel
theorem dX4_readTell_69 : decode cX4_readTell 69 = .ok (.if_icmp .ne 58, 3) := by decide +kernel
theorem dX4_readTell_72 : decode cX4_readTell 72 = .ok (.aload_n 0, 1) := by decide +kernel
theorem dX4_readTell_73 : decode cX4_readTell 73 = .ok (.iload_n 2, 1) := by decide +kernel
theorem dX4_readTell_74 : decode cX4_readTell 74 = .ok (.invokevirtual 78, 3) := by decide +kernel
theorem dX4_readTell_77 : decode cX4_readTell 77 = .ok (.ifCond .eq 26, 3) := by decide +kernel
theorem dX4_readTell_80 : decode cX4_readTell 80 = .ok (.aload_n 0, 1) := by decide +kernel
theorem dX4_readTell_81 : decode cX4_readTell 81 = .ok (.iconst 1, 1) := by decide +kernel
theorem dX4_readTell_82 : decode cX4_readTell 82 = .ok (.sipush 999, 3) := by decide +kernel
theorem dX4_readTell_85 : decode cX4_readTell 85 = .ok (.invokevirtual 82, 3) := by decide +kernel
theorem dX4_readTell_88 : decode cX4_readTell 88 = .ok (.ifCond .eq 15, 3) := by decide +kernel
theorem dX4_readTell_91 : decode cX4_readTell 91 = .ok (.aload_n 0, 1) := by decide +kernel
theorem dX4_readTell_92 : decode cX4_readTell 92 = .ok (.iconst 4, 1) := by decide +kernel
theorem dX4_readTell_93 : decode cX4_readTell 93 = .ok (.invokevirtual 78, 3) := by decide +kernel
theorem dX4_readTell_96 : decode cX4_readTell 96 = .ok (.ifCond .eq 7, 3) := by decide +kernel
theorem dX4_readTell_99 : decode cX4_readTell 99 = .ok (.iconst 1, 1) := by decide +kernel
theorem dX4_readTell_100 : decode cX4_readTell 100 = .ok (.goto 4, 3) := by decide +kernel
theorem dX4_readTell_103 : decode cX4_readTell 103 = .ok (.iconst 0, 1) := by decide +kernel
theorem dX4_readTell_104 : decode cX4_readTell 104 = .ok (.istore_n 3, 1) := by decide +kernel
theorem dX4_readTell_105 : decode cX4_readTell 105 = .ok (.aload_n 1, 1) := by decide +kernel
theorem dX4_readTell_106 : decode cX4_readTell 106 = .ok (.iload_n 3, 1) := by decide +kernel
theorem dX4_readTell_107 : decode cX4_readTell 107 = .ok (.ifCond .eq 11, 3) := by decide +kernel
theorem dX4_readTell_110 : decode cX4_readTell 110 = .ok (.aload_n 0, 1) := by decide +kernel
theorem dX4_readTell_111 : decode cX4_readTell 111 = .ok (.iconst 2, 1) := by decide +kernel
theorem dX4_readTell_112 : decode cX4_readTell 112 = .ok (.invokevirtual 86, 3) := by decide +kernel
theorem dX4_readTell_115 : decode cX4_readTell 115 = .ok (.goto 7, 3) := by decide +kernel
theorem dX4_readTell_118 : decode cX4_readTell 118 = .ok (.aload_n 1, 1) := by decide +kernel
theorem dX4_readTell_119 : decode cX4_readTell 119 = .ok (.getfield 90, 3) := by decide +kernel
theorem dX4_readTell_122 : decode cX4_readTell 122 = .ok (.putfield 90, 3) := by decide +kernel
theorem dX4_readTell_125 : decode cX4_readTell 125 = .ok (.iload_n 3, 1) := by decide +kernel
theorem dX4_readTell_126 : decode cX4_readTell 126 = .ok (.ireturn, 1) := by decide +kernel
theorem dX4_readTell_127 : decode cX4_readTell 127 = .ok (.iload_n 2, 1) := by decide +kernel
theorem dX4_readTell_128 : decode cX4_readTell 128 = .ok (.bipush 21, 2) := by decide +kernel
theorem dX4_readTell_130 : decode cX4_readTell 130 = .ok (.if_icmp .ne 58, 3) := by decide +kernel
theorem dX4_readTell_133 : decode cX4_readTell 133 = .ok (.aload_n 0, 1) := by decide +kernel
theorem dX4_readTell_134 : decode cX4_readTell 134 = .ok (.iload_n 2, 1) := by decide +kernel
theorem dX4_readTell_135 : decode cX4_readTell 135 = .ok (.invokevirtual 78, 3) := by decide +kernel
theorem dX4_readTell_138 : decode cX4_readTell 138 = .ok (.ifCond .eq 26, 3) := by decide +kernel
theorem dX4_readTell_141 : decode cX4_readTell 141 = .ok (.aload_n 0, 1) := by decide +kernel
theorem dX4_readTell_142 : decode cX4_readTell 142 = .ok (.iconst 0, 1) := by decide +kernel
theorem dX4_readTell_143 : decode cX4_readTell 143 = .ok (.sipush 9999, 3) := by decide +kernel
theorem dX4_readTell_146 : decode cX4_readTell 146 = .ok (.invokevirtual 82, 3) := by decide +kernel
theorem dX4_readTell_149 : decode cX4_readTell 149 = .ok (.ifCond .eq 15, 3) := by decide +kernel
