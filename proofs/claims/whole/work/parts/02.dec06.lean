theorem dX11_doesFit_1 : decode cX11_doesFit 1 = .ok (.getfield 119, 3) := by decide +kernel
theorem dX11_doesFit_4 : decode cX11_doesFit 4 = .ok (.bipush 25, 2) := by decide +kernel
theorem dX11_doesFit_6 : decode cX11_doesFit 6 = .ok (.iload_n 2, 1) := by decide +kernel
theorem dX11_doesFit_7 : decode cX11_doesFit 7 = .ok (.iadd, 1) := by decide +kernel
theorem dX11_doesFit_8 : decode cX11_doesFit 8 = .ok (.iaload, 1) := by decide +kernel
theorem dX11_doesFit_9 : decode cX11_doesFit 9 = .ok (.ifCond .ne 28, 3) := by decide +kernel
theorem dX11_doesFit_12 : decode cX11_doesFit 12 = .ok (.aload_n 0, 1) := by decide +kernel
theorem dX11_doesFit_13 : decode cX11_doesFit 13 = .ok (.iload_n 1, 1) := by decide +kernel
theorem dX11_doesFit_14 : decode cX11_doesFit 14 = .ok (.invokevirtual 336, 3) := by decide +kernel
theorem dX11_doesFit_17 : decode cX11_doesFit 17 = .ok (.aload_n 0, 1) := by decide +kernel
theorem dX11_doesFit_18 : decode cX11_doesFit 18 = .ok (.getfield 49, 3) := by decide +kernel
theorem dX11_doesFit_21 : decode cX11_doesFit 21 = .ok (.iconst 4, 1) := by decide +kernel
theorem dX11_doesFit_22 : decode cX11_doesFit 22 = .ok (.aload_n 0, 1) := by decide +kernel
theorem dX11_doesFit_23 : decode cX11_doesFit 23 = .ok (.getfield 236, 3) := by decide +kernel
theorem dX11_doesFit_26 : decode cX11_doesFit 26 = .ok (.imul, 1) := by decide +kernel
theorem dX11_doesFit_27 : decode cX11_doesFit 27 = .ok (.iload_n 2, 1) := by decide +kernel
theorem dX11_doesFit_28 : decode cX11_doesFit 28 = .ok (.iadd, 1) := by decide +kernel
theorem dX11_doesFit_29 : decode cX11_doesFit 29 = .ok (.iaload, 1) := by decide +kernel
theorem dX11_doesFit_30 : decode cX11_doesFit 30 = .ok (.if_icmp .gt 7, 3) := by decide +kernel
theorem dX11_doesFit_33 : decode cX11_doesFit 33 = .ok (.iconst 1, 1) := by decide +kernel
theorem dX11_doesFit_34 : decode cX11_doesFit 34 = .ok (.goto 4, 3) := by decide +kernel
theorem dX11_doesFit_37 : decode cX11_doesFit 37 = .ok (.iconst 0, 1) := by decide +kernel
theorem dX11_doesFit_38 : decode cX11_doesFit 38 = .ok (.ireturn, 1) := by decide +kernel
theorem dX11_guestBits_0 : decode cX11_guestBits 0 = .ok (.iconst 0, 1) := by decide +kernel
theorem dX11_guestBits_1 : decode cX11_guestBits 1 = .ok (.istore_n 2, 1) := by decide +kernel
theorem dX11_guestBits_2 : decode cX11_guestBits 2 = .ok (.iconst 0, 1) := by decide +kernel
theorem dX11_guestBits_3 : decode cX11_guestBits 3 = .ok (.istore_n 3, 1) := by decide +kernel
theorem dX11_guestBits_4 : decode cX11_guestBits 4 = .ok (.iload_n 3, 1) := by decide +kernel
theorem dX11_guestBits_5 : decode cX11_guestBits 5 = .ok (.aload_n 0, 1) := by decide +kernel
theorem dX11_guestBits_6 : decode cX11_guestBits 6 = .ok (.getfield 55, 3) := by decide +kernel
theorem dX11_guestBits_9 : decode cX11_guestBits 9 = .ok (.aload_n 0, 1) := by decide +kernel
theorem dX11_guestBits_10 : decode cX11_guestBits 10 = .ok (.getfield 236, 3) := by decide +kernel
theorem dX11_guestBits_13 : decode cX11_guestBits 13 = .ok (.iaload, 1) := by decide +kernel
theorem dX11_guestBits_14 : decode cX11_guestBits 14 = .ok (.if_icmp .ge 25, 3) := by decide +kernel
theorem dX11_guestBits_17 : decode cX11_guestBits 17 = .ok (.aload_n 0, 1) := by decide +kernel
theorem dX11_guestBits_18 : decode cX11_guestBits 18 = .ok (.getfield 119, 3) := by decide +kernel
theorem dX11_guestBits_21 : decode cX11_guestBits 21 = .ok (.iload_n 3, 1) := by decide +kernel
theorem dX11_guestBits_22 : decode cX11_guestBits 22 = .ok (.iaload, 1) := by decide +kernel
theorem dX11_guestBits_23 : decode cX11_guestBits 23 = .ok (.iload_n 1, 1) := by decide +kernel
theorem dX11_guestBits_24 : decode cX11_guestBits 24 = .ok (.if_icmp .ne 9, 3) := by decide +kernel
theorem dX11_guestBits_27 : decode cX11_guestBits 27 = .ok (.iload_n 2, 1) := by decide +kernel
theorem dX11_guestBits_28 : decode cX11_guestBits 28 = .ok (.iconst 1, 1) := by decide +kernel
theorem dX11_guestBits_29 : decode cX11_guestBits 29 = .ok (.iload_n 3, 1) := by decide +kernel
theorem dX11_guestBits_30 : decode cX11_guestBits 30 = .ok (.ishl, 1) := by decide +kernel
theorem dX11_guestBits_31 : decode cX11_guestBits 31 = .ok (.ior, 1) := by decide +kernel
theorem dX11_guestBits_32 : decode cX11_guestBits 32 = .ok (.istore_n 2, 1) := by decide +kernel
theorem dX11_guestBits_33 : decode cX11_guestBits 33 = .ok (.iinc 3 1, 3) := by decide +kernel
theorem dX11_guestBits_36 : decode cX11_guestBits 36 = .ok (.goto (-32), 3) := by decide +kernel
theorem dX11_guestBits_39 : decode cX11_guestBits 39 = .ok (.iload_n 2, 1) := by decide +kernel
theorem dX11_guestBits_40 : decode cX11_guestBits 40 = .ok (.ireturn, 1) := by decide +kernel
theorem dX11_whoIsAt_0 : decode cX11_whoIsAt 0 = .ok (.iconst 0, 1) := by decide +kernel
theorem dX11_whoIsAt_1 : decode cX11_whoIsAt 1 = .ok (.istore_n 3, 1) := by decide +kernel
theorem dX11_whoIsAt_2 : decode cX11_whoIsAt 2 = .ok (.iload_n 3, 1) := by decide +kernel
theorem dX11_whoIsAt_3 : decode cX11_whoIsAt 3 = .ok (.aload_n 0, 1) := by decide +kernel
theorem dX11_whoIsAt_4 : decode cX11_whoIsAt 4 = .ok (.getfield 55, 3) := by decide +kernel
theorem dX11_whoIsAt_7 : decode cX11_whoIsAt 7 = .ok (.aload_n 0, 1) := by decide +kernel
theorem dX11_whoIsAt_8 : decode cX11_whoIsAt 8 = .ok (.getfield 236, 3) := by decide +kernel
theorem dX11_whoIsAt_11 : decode cX11_whoIsAt 11 = .ok (.iaload, 1) := by decide +kernel
theorem dX11_whoIsAt_12 : decode cX11_whoIsAt 12 = .ok (.if_icmp .ge 40, 3) := by decide +kernel
theorem dX11_whoIsAt_15 : decode cX11_whoIsAt 15 = .ok (.aload_n 0, 1) := by decide +kernel
theorem dX11_whoIsAt_16 : decode cX11_whoIsAt 16 = .ok (.getfield 119, 3) := by decide +kernel
theorem dX11_whoIsAt_19 : decode cX11_whoIsAt 19 = .ok (.iload_n 3, 1) := by decide +kernel
theorem dX11_whoIsAt_20 : decode cX11_whoIsAt 20 = .ok (.iaload, 1) := by decide +kernel
theorem dX11_whoIsAt_21 : decode cX11_whoIsAt 21 = .ok (.iload_n 1, 1) := by decide +kernel
theorem dX11_whoIsAt_22 : decode cX11_whoIsAt 22 = .ok (.if_icmp .ne 24, 3) := by decide +kernel
theorem dX11_whoIsAt_25 : decode cX11_whoIsAt 25 = .ok (.iload_n 2, 1) := by decide +kernel
theorem dX11_whoIsAt_26 : decode cX11_whoIsAt 26 = .ok (.aload_n 0, 1) := by decide +kernel
theorem dX11_whoIsAt_27 : decode cX11_whoIsAt 27 = .ok (.iload_n 3, 1) := by decide +kernel
theorem dX11_whoIsAt_28 : decode cX11_whoIsAt 28 = .ok (.invokevirtual 333, 3) := by decide +kernel
theorem dX11_whoIsAt_31 : decode cX11_whoIsAt 31 = .ok (.aload_n 0, 1) := by decide +kernel
theorem dX11_whoIsAt_32 : decode cX11_whoIsAt 32 = .ok (.iload_n 3, 1) := by decide +kernel
theorem dX11_whoIsAt_33 : decode cX11_whoIsAt 33 = .ok (.invokevirtual 336, 3) := by decide +kernel
theorem dX11_whoIsAt_36 : decode cX11_whoIsAt 36 = .ok (.iconst 1, 1) := by decide +kernel
theorem dX11_whoIsAt_37 : decode cX11_whoIsAt 37 = .ok (.isub, 1) := by decide +kernel
theorem dX11_whoIsAt_38 : decode cX11_whoIsAt 38 = .ok (.invokestatic 316, 3) := by decide +kernel
theorem dX11_whoIsAt_41 : decode cX11_whoIsAt 41 = .ok (.ifCond .eq 5, 3) := by decide +kernel
theorem dX11_whoIsAt_44 : decode cX11_whoIsAt 44 = .ok (.iload_n 3, 1) := by decide +kernel
theorem dX11_whoIsAt_45 : decode cX11_whoIsAt 45 = .ok (.ireturn, 1) := by decide +kernel
theorem dX11_whoIsAt_46 : decode cX11_whoIsAt 46 = .ok (.iinc 3 1, 3) := by decide +kernel
theorem dX11_whoIsAt_49 : decode cX11_whoIsAt 49 = .ok (.goto (-47), 3) := by decide +kernel
theorem dX11_whoIsAt_52 : decode cX11_whoIsAt 52 = .ok (.bipush (-2), 2) := by decide +kernel
theorem dX11_whoIsAt_54 : decode cX11_whoIsAt 54 = .ok (.ireturn, 1) := by decide +kernel
theorem dX11_hoursTaken_0 : decode cX11_hoursTaken 0 = .ok (.iconst 0, 1) := by decide +kernel
theorem dX11_hoursTaken_1 : decode cX11_hoursTaken 1 = .ok (.istore_n 2, 1) := by decide +kernel
theorem dX11_hoursTaken_2 : decode cX11_hoursTaken 2 = .ok (.iconst 0, 1) := by decide +kernel
theorem dX11_hoursTaken_3 : decode cX11_hoursTaken 3 = .ok (.istore_n 3, 1) := by decide +kernel
theorem dX11_hoursTaken_4 : decode cX11_hoursTaken 4 = .ok (.iload_n 3, 1) := by decide +kernel
theorem dX11_hoursTaken_5 : decode cX11_hoursTaken 5 = .ok (.aload_n 0, 1) := by decide +kernel
theorem dX11_hoursTaken_6 : decode cX11_hoursTaken 6 = .ok (.getfield 55, 3) := by decide +kernel
theorem dX11_hoursTaken_9 : decode cX11_hoursTaken 9 = .ok (.aload_n 0, 1) := by decide +kernel
theorem dX11_hoursTaken_10 : decode cX11_hoursTaken 10 = .ok (.getfield 236, 3) := by decide +kernel
theorem dX11_hoursTaken_13 : decode cX11_hoursTaken 13 = .ok (.iaload, 1) := by decide +kernel
theorem dX11_hoursTaken_14 : decode cX11_hoursTaken 14 = .ok (.if_icmp .ge 36, 3) := by decide +kernel
theorem dX11_hoursTaken_17 : decode cX11_hoursTaken 17 = .ok (.aload_n 0, 1) := by decide +kernel
theorem dX11_hoursTaken_18 : decode cX11_hoursTaken 18 = .ok (.getfield 119, 3) := by decide +kernel
theorem dX11_hoursTaken_21 : decode cX11_hoursTaken 21 = .ok (.iload_n 3, 1) := by decide +kernel
theorem dX11_hoursTaken_22 : decode cX11_hoursTaken 22 = .ok (.iaload, 1) := by decide +kernel
theorem dX11_hoursTaken_23 : decode cX11_hoursTaken 23 = .ok (.iload_n 1, 1) := by decide +kernel
theorem dX11_hoursTaken_24 : decode cX11_hoursTaken 24 = .ok (.if_icmp .ne 20, 3) := by decide +kernel
theorem dX11_hoursTaken_27 : decode cX11_hoursTaken 27 = .ok (.iload_n 2, 1) := by decide +kernel
theorem dX11_hoursTaken_28 : decode cX11_hoursTaken 28 = .ok (.aload_n 0, 1) := by decide +kernel
theorem dX11_hoursTaken_29 : decode cX11_hoursTaken 29 = .ok (.getfield 61, 3) := by decide +kernel
theorem dX11_hoursTaken_32 : decode cX11_hoursTaken 32 = .ok (.bipush 7, 2) := by decide +kernel
theorem dX11_hoursTaken_34 : decode cX11_hoursTaken 34 = .ok (.aload_n 0, 1) := by decide +kernel
theorem dX11_hoursTaken_35 : decode cX11_hoursTaken 35 = .ok (.getfield 236, 3) := by decide +kernel
theorem dX11_hoursTaken_38 : decode cX11_hoursTaken 38 = .ok (.imul, 1) := by decide +kernel
theorem dX11_hoursTaken_39 : decode cX11_hoursTaken 39 = .ok (.iload_n 3, 1) := by decide +kernel
theorem dX11_hoursTaken_40 : decode cX11_hoursTaken 40 = .ok (.iadd, 1) := by decide +kernel
theorem dX11_hoursTaken_41 : decode cX11_hoursTaken 41 = .ok (.iaload, 1) := by decide +kernel
theorem dX11_hoursTaken_42 : decode cX11_hoursTaken 42 = .ok (.iadd, 1) := by decide +kernel
theorem dX11_hoursTaken_43 : decode cX11_hoursTaken 43 = .ok (.istore_n 2, 1) := by decide +kernel
theorem dX11_hoursTaken_44 : decode cX11_hoursTaken 44 = .ok (.iinc 3 1, 3) := by decide +kernel
theorem dX11_hoursTaken_47 : decode cX11_hoursTaken 47 = .ok (.goto (-43), 3) := by decide +kernel
theorem dX11_hoursTaken_50 : decode cX11_hoursTaken 50 = .ok (.iload_n 2, 1) := by decide +kernel
theorem dX11_hoursTaken_51 : decode cX11_hoursTaken 51 = .ok (.ireturn, 1) := by decide +kernel
theorem dX11_livingBits_0 : decode cX11_livingBits 0 = .ok (.iconst 0, 1) := by decide +kernel
theorem dX11_livingBits_1 : decode cX11_livingBits 1 = .ok (.istore_n 1, 1) := by decide +kernel
theorem dX11_livingBits_2 : decode cX11_livingBits 2 = .ok (.iconst 0, 1) := by decide +kernel
theorem dX11_livingBits_3 : decode cX11_livingBits 3 = .ok (.istore_n 2, 1) := by decide +kernel
theorem dX11_livingBits_4 : decode cX11_livingBits 4 = .ok (.iload_n 2, 1) := by decide +kernel
theorem dX11_livingBits_5 : decode cX11_livingBits 5 = .ok (.aload_n 0, 1) := by decide +kernel
theorem dX11_livingBits_6 : decode cX11_livingBits 6 = .ok (.getfield 55, 3) := by decide +kernel
theorem dX11_livingBits_9 : decode cX11_livingBits 9 = .ok (.aload_n 0, 1) := by decide +kernel
theorem dX11_livingBits_10 : decode cX11_livingBits 10 = .ok (.getfield 236, 3) := by decide +kernel
theorem dX11_livingBits_13 : decode cX11_livingBits 13 = .ok (.iaload, 1) := by decide +kernel
theorem dX11_livingBits_14 : decode cX11_livingBits 14 = .ok (.if_icmp .ge 27, 3) := by decide +kernel
theorem dX11_livingBits_17 : decode cX11_livingBits 17 = .ok (.aload_n 0, 1) := by decide +kernel
theorem dX11_livingBits_18 : decode cX11_livingBits 18 = .ok (.getfield 119, 3) := by decide +kernel
theorem dX11_livingBits_21 : decode cX11_livingBits 21 = .ok (.bipush 14, 2) := by decide +kernel
theorem dX11_livingBits_23 : decode cX11_livingBits 23 = .ok (.iload_n 2, 1) := by decide +kernel
theorem dX11_livingBits_24 : decode cX11_livingBits 24 = .ok (.iadd, 1) := by decide +kernel
theorem dX11_livingBits_25 : decode cX11_livingBits 25 = .ok (.iaload, 1) := by decide +kernel
theorem dX11_livingBits_26 : decode cX11_livingBits 26 = .ok (.ifCond .ne 9, 3) := by decide +kernel
theorem dX11_livingBits_29 : decode cX11_livingBits 29 = .ok (.iload_n 1, 1) := by decide +kernel
theorem dX11_livingBits_30 : decode cX11_livingBits 30 = .ok (.iconst 1, 1) := by decide +kernel
theorem dX11_livingBits_31 : decode cX11_livingBits 31 = .ok (.iload_n 2, 1) := by decide +kernel
theorem dX11_livingBits_32 : decode cX11_livingBits 32 = .ok (.ishl, 1) := by decide +kernel
theorem dX11_livingBits_33 : decode cX11_livingBits 33 = .ok (.ior, 1) := by decide +kernel
theorem dX11_livingBits_34 : decode cX11_livingBits 34 = .ok (.istore_n 1, 1) := by decide +kernel
theorem dX11_livingBits_35 : decode cX11_livingBits 35 = .ok (.iinc 2 1, 3) := by decide +kernel
theorem dX11_livingBits_38 : decode cX11_livingBits 38 = .ok (.goto (-34), 3) := by decide +kernel
theorem dX11_livingBits_41 : decode cX11_livingBits 41 = .ok (.iload_n 1, 1) := by decide +kernel
theorem dX11_livingBits_42 : decode cX11_livingBits 42 = .ok (.ireturn, 1) := by decide +kernel
theorem dX11_lawTells_0 : decode cX11_lawTells 0 = .ok (.iconst 4, 1) := by decide +kernel
theorem dX11_lawTells_1 : decode cX11_lawTells 1 = .ok (.aload_n 0, 1) := by decide +kernel
theorem dX11_lawTells_2 : decode cX11_lawTells 2 = .ok (.getfield 236, 3) := by decide +kernel
theorem dX11_lawTells_5 : decode cX11_lawTells 5 = .ok (.imul, 1) := by decide +kernel
theorem dX11_lawTells_6 : decode cX11_lawTells 6 = .ok (.iload_n 1, 1) := by decide +kernel
theorem dX11_lawTells_7 : decode cX11_lawTells 7 = .ok (.iadd, 1) := by decide +kernel
theorem dX11_lawTells_8 : decode cX11_lawTells 8 = .ok (.istore_n 3, 1) := by decide +kernel
theorem dX11_lawTells_9 : decode cX11_lawTells 9 = .ok (.aload_n 0, 1) := by decide +kernel
theorem dX11_lawTells_10 : decode cX11_lawTells 10 = .ok (.getfield 79, 3) := by decide +kernel
theorem dX11_lawTells_13 : decode cX11_lawTells 13 = .ok (.iload_n 3, 1) := by decide +kernel
theorem dX11_lawTells_14 : decode cX11_lawTells 14 = .ok (.iaload, 1) := by decide +kernel
theorem dX11_lawTells_15 : decode cX11_lawTells 15 = .ok (.aload_n 0, 1) := by decide +kernel
theorem dX11_lawTells_16 : decode cX11_lawTells 16 = .ok (.getfield 82, 3) := by decide +kernel
theorem dX11_lawTells_19 : decode cX11_lawTells 19 = .ok (.iload_n 3, 1) := by decide +kernel
theorem dX11_lawTells_20 : decode cX11_lawTells 20 = .ok (.iaload, 1) := by decide +kernel
theorem dX11_lawTells_21 : decode cX11_lawTells 21 = .ok (.if_icmp .ne 11, 3) := by decide +kernel
theorem dX11_lawTells_24 : decode cX11_lawTells 24 = .ok (.iload_n 2, 1) := by decide +kernel
theorem dX11_lawTells_25 : decode cX11_lawTells 25 = .ok (.iconst 0, 1) := by decide +kernel
theorem dX11_lawTells_26 : decode cX11_lawTells 26 = .ok (.bipush 99, 2) := by decide +kernel
theorem dX11_lawTells_28 : decode cX11_lawTells 28 = .ok (.invokestatic 343, 3) := by decide +kernel
theorem dX11_lawTells_31 : decode cX11_lawTells 31 = .ok (.ireturn, 1) := by decide +kernel
theorem dX11_lawTells_32 : decode cX11_lawTells 32 = .ok (.aload_n 0, 1) := by decide +kernel
theorem dX11_lawTells_33 : decode cX11_lawTells 33 = .ok (.iconst 0, 1) := by decide +kernel
theorem dX11_lawTells_34 : decode cX11_lawTells 34 = .ok (.putfield 312, 3) := by decide +kernel
theorem dX11_lawTells_37 : decode cX11_lawTells 37 = .ok (.aload_n 0, 1) := by decide +kernel
theorem dX11_lawTells_38 : decode cX11_lawTells 38 = .ok (.getfield 79, 3) := by decide +kernel
theorem dX11_lawTells_41 : decode cX11_lawTells 41 = .ok (.iload_n 3, 1) := by decide +kernel
theorem dX11_lawTells_42 : decode cX11_lawTells 42 = .ok (.iaload, 1) := by decide +kernel
theorem dX11_lawTells_43 : decode cX11_lawTells 43 = .ok (.istore 4, 2) := by decide +kernel
theorem dX11_lawTells_45 : decode cX11_lawTells 45 = .ok (.iload 4, 2) := by decide +kernel
theorem dX11_lawTells_47 : decode cX11_lawTells 47 = .ok (.aload_n 0, 1) := by decide +kernel
theorem dX11_lawTells_48 : decode cX11_lawTells 48 = .ok (.getfield 82, 3) := by decide +kernel
theorem dX11_lawTells_51 : decode cX11_lawTells 51 = .ok (.iload_n 3, 1) := by decide +kernel
theorem dX11_lawTells_52 : decode cX11_lawTells 52 = .ok (.iaload, 1) := by decide +kernel
theorem dX11_lawTells_53 : decode cX11_lawTells 53 = .ok (.if_icmp .ge 118, 3) := by decide +kernel
theorem dX11_lawTells_56 : decode cX11_lawTells 56 = .ok (.aload_n 0, 1) := by decide +kernel
theorem dX11_lawTells_57 : decode cX11_lawTells 57 = .ok (.getfield 85, 3) := by decide +kernel
theorem dX11_lawTells_60 : decode cX11_lawTells 60 = .ok (.iload 4, 2) := by decide +kernel
theorem dX11_lawTells_62 : decode cX11_lawTells 62 = .ok (.baload, 1) := by decide +kernel
theorem dX11_lawTells_63 : decode cX11_lawTells 63 = .ok (.ifCond .eq 62, 3) := by decide +kernel
theorem dX11_lawTells_66 : decode cX11_lawTells 66 = .ok (.aload_n 0, 1) := by decide +kernel
theorem dX11_lawTells_67 : decode cX11_lawTells 67 = .ok (.aload_n 0, 1) := by decide +kernel
theorem dX11_lawTells_68 : decode cX11_lawTells 68 = .ok (.getfield 89, 3) := by decide +kernel
theorem dX11_lawTells_71 : decode cX11_lawTells 71 = .ok (.iload 4, 2) := by decide +kernel
theorem dX11_lawTells_73 : decode cX11_lawTells 73 = .ok (.iaload, 1) := by decide +kernel
theorem dX11_lawTells_74 : decode cX11_lawTells 74 = .ok (.aload_n 0, 1) := by decide +kernel
theorem dX11_lawTells_75 : decode cX11_lawTells 75 = .ok (.getfield 92, 3) := by decide +kernel
theorem dX11_lawTells_78 : decode cX11_lawTells 78 = .ok (.iload 4, 2) := by decide +kernel
theorem dX11_lawTells_80 : decode cX11_lawTells 80 = .ok (.iaload, 1) := by decide +kernel
theorem dX11_lawTells_81 : decode cX11_lawTells 81 = .ok (.invokevirtual 346, 3) := by decide +kernel
theorem dX11_lawTells_84 : decode cX11_lawTells 84 = .ok (.istore 5, 2) := by decide +kernel
theorem dX11_lawTells_86 : decode cX11_lawTells 86 = .ok (.aload_n 0, 1) := by decide +kernel
theorem dX11_lawTells_87 : decode cX11_lawTells 87 = .ok (.aload_n 0, 1) := by decide +kernel
theorem dX11_lawTells_88 : decode cX11_lawTells 88 = .ok (.getfield 92, 3) := by decide +kernel
theorem dX11_lawTells_91 : decode cX11_lawTells 91 = .ok (.iload 4, 2) := by decide +kernel
theorem dX11_lawTells_93 : decode cX11_lawTells 93 = .ok (.iaload, 1) := by decide +kernel
theorem dX11_lawTells_94 : decode cX11_lawTells 94 = .ok (.aload_n 0, 1) := by decide +kernel
theorem dX11_lawTells_95 : decode cX11_lawTells 95 = .ok (.getfield 95, 3) := by decide +kernel
theorem dX11_lawTells_98 : decode cX11_lawTells 98 = .ok (.iload 4, 2) := by decide +kernel
theorem dX11_lawTells_100 : decode cX11_lawTells 100 = .ok (.iaload, 1) := by decide +kernel
theorem dX11_lawTells_101 : decode cX11_lawTells 101 = .ok (.invokevirtual 346, 3) := by decide +kernel
theorem dX11_lawTells_104 : decode cX11_lawTells 104 = .ok (.istore 6, 2) := by decide +kernel
theorem dX11_lawTells_106 : decode cX11_lawTells 106 = .ok (.aload_n 0, 1) := by decide +kernel
theorem dX11_lawTells_107 : decode cX11_lawTells 107 = .ok (.getfield 312, 3) := by decide +kernel
theorem dX11_lawTells_110 : decode cX11_lawTells 110 = .ok (.ifCond .eq 5, 3) := by decide +kernel
theorem dX11_lawTells_113 : decode cX11_lawTells 113 = .ok (.iconst 0, 1) := by decide +kernel
theorem dX11_lawTells_114 : decode cX11_lawTells 114 = .ok (.ireturn, 1) := by decide +kernel
theorem dX11_lawTells_115 : decode cX11_lawTells 115 = .ok (.iload 5, 2) := by decide +kernel
theorem dX11_lawTells_117 : decode cX11_lawTells 117 = .ok (.iload 6, 2) := by decide +kernel
theorem dX11_lawTells_119 : decode cX11_lawTells 119 = .ok (.if_icmp .lt 6, 3) := by decide +kernel
theorem dX11_lawTells_122 : decode cX11_lawTells 122 = .ok (.goto 43, 3) := by decide +kernel
theorem dX11_lawTells_125 : decode cX11_lawTells 125 = .ok (.aload_n 0, 1) := by decide +kernel
theorem dX11_lawTells_126 : decode cX11_lawTells 126 = .ok (.aload_n 0, 1) := by decide +kernel
theorem dX11_lawTells_127 : decode cX11_lawTells 127 = .ok (.getfield 95, 3) := by decide +kernel
theorem dX11_lawTells_130 : decode cX11_lawTells 130 = .ok (.iload 4, 2) := by decide +kernel
theorem dX11_lawTells_132 : decode cX11_lawTells 132 = .ok (.iaload, 1) := by decide +kernel
theorem dX11_lawTells_133 : decode cX11_lawTells 133 = .ok (.aload_n 0, 1) := by decide +kernel
theorem dX11_lawTells_134 : decode cX11_lawTells 134 = .ok (.getfield 98, 3) := by decide +kernel
theorem dX11_lawTells_137 : decode cX11_lawTells 137 = .ok (.iload 4, 2) := by decide +kernel
theorem dX11_lawTells_139 : decode cX11_lawTells 139 = .ok (.iaload, 1) := by decide +kernel
theorem dX11_lawTells_140 : decode cX11_lawTells 140 = .ok (.invokevirtual 346, 3) := by decide +kernel
theorem dX11_lawTells_143 : decode cX11_lawTells 143 = .ok (.istore 5, 2) := by decide +kernel
theorem dX11_lawTells_145 : decode cX11_lawTells 145 = .ok (.aload_n 0, 1) := by decide +kernel
theorem dX11_lawTells_146 : decode cX11_lawTells 146 = .ok (.getfield 312, 3) := by decide +kernel
theorem dX11_lawTells_149 : decode cX11_lawTells 149 = .ok (.ifCond .eq 7, 3) := by decide +kernel
theorem dX11_lawTells_152 : decode cX11_lawTells 152 = .ok (.iconst 0, 1) := by decide +kernel
theorem dX11_lawTells_153 : decode cX11_lawTells 153 = .ok (.goto 11, 3) := by decide +kernel
theorem dX11_lawTells_156 : decode cX11_lawTells 156 = .ok (.iload 5, 2) := by decide +kernel
theorem dX11_lawTells_158 : decode cX11_lawTells 158 = .ok (.iconst 0, 1) := by decide +kernel
theorem dX11_lawTells_159 : decode cX11_lawTells 159 = .ok (.bipush 99, 2) := by decide +kernel
theorem dX11_lawTells_161 : decode cX11_lawTells 161 = .ok (.invokestatic 343, 3) := by decide +kernel
theorem dX11_lawTells_164 : decode cX11_lawTells 164 = .ok (.ireturn, 1) := by decide +kernel
theorem dX11_lawTells_165 : decode cX11_lawTells 165 = .ok (.iinc 4 1, 3) := by decide +kernel
theorem dX11_lawTells_168 : decode cX11_lawTells 168 = .ok (.goto (-123), 3) := by decide +kernel
theorem dX11_lawTells_171 : decode cX11_lawTells 171 = .ok (.iconst 0, 1) := by decide +kernel
theorem dX11_lawTells_172 : decode cX11_lawTells 172 = .ok (.ireturn, 1) := by decide +kernel
theorem dX11_looksAt_0 : decode cX11_looksAt 0 = .ok (.aload_n 0, 1) := by decide +kernel
theorem dX11_looksAt_1 : decode cX11_looksAt 1 = .ok (.getfield 110, 3) := by decide +kernel
theorem dX11_looksAt_4 : decode cX11_looksAt 4 = .ok (.iconst 4, 1) := by decide +kernel
theorem dX11_looksAt_5 : decode cX11_looksAt 5 = .ok (.aload_n 0, 1) := by decide +kernel
theorem dX11_looksAt_6 : decode cX11_looksAt 6 = .ok (.getfield 119, 3) := by decide +kernel
theorem dX11_looksAt_9 : decode cX11_looksAt 9 = .ok (.bipush 21, 2) := by decide +kernel
theorem dX11_looksAt_11 : decode cX11_looksAt 11 = .ok (.iload_n 1, 1) := by decide +kernel
theorem dX11_looksAt_12 : decode cX11_looksAt 12 = .ok (.iadd, 1) := by decide +kernel
theorem dX11_looksAt_13 : decode cX11_looksAt 13 = .ok (.iaload, 1) := by decide +kernel
theorem dX11_looksAt_14 : decode cX11_looksAt 14 = .ok (.iastore, 1) := by decide +kernel
theorem dX11_looksAt_15 : decode cX11_looksAt 15 = .ok (.aload_n 0, 1) := by decide +kernel
theorem dX11_looksAt_16 : decode cX11_looksAt 16 = .ok (.getfield 110, 3) := by decide +kernel
theorem dX11_looksAt_19 : decode cX11_looksAt 19 = .ok (.iconst 5, 1) := by decide +kernel
theorem dX11_looksAt_20 : decode cX11_looksAt 20 = .ok (.aload_n 0, 1) := by decide +kernel
theorem dX11_looksAt_21 : decode cX11_looksAt 21 = .ok (.getfield 52, 3) := by decide +kernel
theorem dX11_looksAt_24 : decode cX11_looksAt 24 = .ok (.iconst 4, 1) := by decide +kernel
theorem dX11_looksAt_25 : decode cX11_looksAt 25 = .ok (.aload_n 0, 1) := by decide +kernel
theorem dX11_looksAt_26 : decode cX11_looksAt 26 = .ok (.getfield 236, 3) := by decide +kernel
theorem dX11_looksAt_29 : decode cX11_looksAt 29 = .ok (.imul, 1) := by decide +kernel
theorem dX11_looksAt_30 : decode cX11_looksAt 30 = .ok (.iload_n 1, 1) := by decide +kernel
theorem dX11_looksAt_31 : decode cX11_looksAt 31 = .ok (.iadd, 1) := by decide +kernel
theorem dX11_looksAt_32 : decode cX11_looksAt 32 = .ok (.iaload, 1) := by decide +kernel
theorem dX11_looksAt_33 : decode cX11_looksAt 33 = .ok (.iastore, 1) := by decide +kernel
theorem dX11_looksAt_34 : decode cX11_looksAt 34 = .ok (.aload_n 0, 1) := by decide +kernel
theorem dX11_looksAt_35 : decode cX11_looksAt 35 = .ok (.getfield 110, 3) := by decide +kernel
theorem dX11_looksAt_38 : decode cX11_looksAt 38 = .ok (.bipush 6, 2) := by decide +kernel
theorem dX11_looksAt_40 : decode cX11_looksAt 40 = .ok (.aload_n 0, 1) := by decide +kernel
theorem dX11_looksAt_41 : decode cX11_looksAt 41 = .ok (.getfield 119, 3) := by decide +kernel
theorem dX11_looksAt_44 : decode cX11_looksAt 44 = .ok (.bipush 29, 2) := by decide +kernel
theorem dX11_looksAt_46 : decode cX11_looksAt 46 = .ok (.iaload, 1) := by decide +kernel
theorem dX11_looksAt_47 : decode cX11_looksAt 47 = .ok (.iastore, 1) := by decide +kernel
theorem dX11_looksAt_48 : decode cX11_looksAt 48 = .ok (.return_, 1) := by decide +kernel
theorem dX11_looks_0 : decode cX11_looks 0 = .ok (.aload_n 0, 1) := by decide +kernel
theorem dX11_looks_1 : decode cX11_looks 1 = .ok (.iload_n 2, 1) := by decide +kernel
theorem dX11_looks_2 : decode cX11_looks 2 = .ok (.invokevirtual 349, 3) := by decide +kernel
theorem dX11_looks_5 : decode cX11_looks 5 = .ok (.aload_n 0, 1) := by decide +kernel
theorem dX11_looks_6 : decode cX11_looks 6 = .ok (.getfield 110, 3) := by decide +kernel
theorem dX11_looks_9 : decode cX11_looks 9 = .ok (.iconst 0, 1) := by decide +kernel
theorem dX11_looks_10 : decode cX11_looks 10 = .ok (.aload_n 0, 1) := by decide +kernel
theorem dX11_looks_11 : decode cX11_looks 11 = .ok (.getfield 64, 3) := by decide +kernel
theorem dX11_looks_14 : decode cX11_looks 14 = .ok (.bipush 7, 2) := by decide +kernel
theorem dX11_looks_16 : decode cX11_looks 16 = .ok (.aload_n 0, 1) := by decide +kernel
theorem dX11_looks_17 : decode cX11_looks 17 = .ok (.getfield 236, 3) := by decide +kernel
theorem dX11_looks_20 : decode cX11_looks 20 = .ok (.imul, 1) := by decide +kernel
theorem dX11_looks_21 : decode cX11_looks 21 = .ok (.iload_n 1, 1) := by decide +kernel
theorem dX11_looks_22 : decode cX11_looks 22 = .ok (.iadd, 1) := by decide +kernel
theorem dX11_looks_23 : decode cX11_looks 23 = .ok (.iaload, 1) := by decide +kernel
theorem dX11_looks_24 : decode cX11_looks 24 = .ok (.iastore, 1) := by decide +kernel
theorem dX11_looks_25 : decode cX11_looks 25 = .ok (.aload_n 0, 1) := by decide +kernel
theorem dX11_looks_26 : decode cX11_looks 26 = .ok (.getfield 110, 3) := by decide +kernel
theorem dX11_looks_29 : decode cX11_looks 29 = .ok (.iconst 1, 1) := by decide +kernel
theorem dX11_looks_30 : decode cX11_looks 30 = .ok (.aload_n 0, 1) := by decide +kernel
theorem dX11_looks_31 : decode cX11_looks 31 = .ok (.getfield 61, 3) := by decide +kernel
theorem dX11_looks_34 : decode cX11_looks 34 = .ok (.bipush 7, 2) := by decide +kernel
theorem dX11_looks_36 : decode cX11_looks 36 = .ok (.aload_n 0, 1) := by decide +kernel
theorem dX11_looks_37 : decode cX11_looks 37 = .ok (.getfield 236, 3) := by decide +kernel
theorem dX11_looks_40 : decode cX11_looks 40 = .ok (.imul, 1) := by decide +kernel
theorem dX11_looks_41 : decode cX11_looks 41 = .ok (.iload_n 1, 1) := by decide +kernel
theorem dX11_looks_42 : decode cX11_looks 42 = .ok (.iadd, 1) := by decide +kernel
theorem dX11_looks_43 : decode cX11_looks 43 = .ok (.iaload, 1) := by decide +kernel
theorem dX11_looks_44 : decode cX11_looks 44 = .ok (.iastore, 1) := by decide +kernel
theorem dX11_looks_45 : decode cX11_looks 45 = .ok (.aload_n 0, 1) := by decide +kernel
theorem dX11_looks_46 : decode cX11_looks 46 = .ok (.getfield 110, 3) := by decide +kernel
theorem dX11_looks_49 : decode cX11_looks 49 = .ok (.iconst 2, 1) := by decide +kernel
theorem dX11_looks_50 : decode cX11_looks 50 = .ok (.aload_n 0, 1) := by decide +kernel
theorem dX11_looks_51 : decode cX11_looks 51 = .ok (.iload_n 1, 1) := by decide +kernel
theorem dX11_looks_52 : decode cX11_looks 52 = .ok (.invokevirtual 333, 3) := by decide +kernel
theorem dX11_looks_55 : decode cX11_looks 55 = .ok (.iastore, 1) := by decide +kernel
theorem dX11_looks_56 : decode cX11_looks 56 = .ok (.aload_n 0, 1) := by decide +kernel
theorem dX11_looks_57 : decode cX11_looks 57 = .ok (.getfield 110, 3) := by decide +kernel
theorem dX11_looks_60 : decode cX11_looks 60 = .ok (.iconst 3, 1) := by decide +kernel
theorem dX11_looks_61 : decode cX11_looks 61 = .ok (.aload_n 0, 1) := by decide +kernel
theorem dX11_looks_62 : decode cX11_looks 62 = .ok (.getfield 119, 3) := by decide +kernel
theorem dX11_looks_65 : decode cX11_looks 65 = .ok (.bipush 7, 2) := by decide +kernel
theorem dX11_looks_67 : decode cX11_looks 67 = .ok (.iload_n 1, 1) := by decide +kernel
theorem dX11_looks_68 : decode cX11_looks 68 = .ok (.iadd, 1) := by decide +kernel
theorem dX11_looks_69 : decode cX11_looks 69 = .ok (.iaload, 1) := by decide +kernel
theorem dX11_looks_70 : decode cX11_looks 70 = .ok (.iastore, 1) := by decide +kernel
theorem dX11_looks_71 : decode cX11_looks 71 = .ok (.aload_n 0, 1) := by decide +kernel
theorem dX11_looks_72 : decode cX11_looks 72 = .ok (.getfield 110, 3) := by decide +kernel
theorem dX11_looks_75 : decode cX11_looks 75 = .ok (.bipush 7, 2) := by decide +kernel
theorem dX11_looks_77 : decode cX11_looks 77 = .ok (.iload_n 1, 1) := by decide +kernel
theorem dX11_looks_78 : decode cX11_looks 78 = .ok (.iastore, 1) := by decide +kernel
theorem dX11_looks_79 : decode cX11_looks 79 = .ok (.aload_n 0, 1) := by decide +kernel
theorem dX11_looks_80 : decode cX11_looks 80 = .ok (.getfield 110, 3) := by decide +kernel
theorem dX11_looks_83 : decode cX11_looks 83 = .ok (.bipush 8, 2) := by decide +kernel
theorem dX11_looks_85 : decode cX11_looks 85 = .ok (.iload_n 3, 1) := by decide +kernel
theorem dX11_looks_86 : decode cX11_looks 86 = .ok (.iastore, 1) := by decide +kernel
theorem dX11_looks_87 : decode cX11_looks 87 = .ok (.return_, 1) := by decide +kernel
theorem dX11_paysAt_0 : decode cX11_paysAt 0 = .ok (.aload_n 0, 1) := by decide +kernel
theorem dX11_paysAt_1 : decode cX11_paysAt 1 = .ok (.iload_n 1, 1) := by decide +kernel
theorem dX11_paysAt_2 : decode cX11_paysAt 2 = .ok (.iload_n 2, 1) := by decide +kernel
theorem dX11_paysAt_3 : decode cX11_paysAt 3 = .ok (.iload_n 3, 1) := by decide +kernel
theorem dX11_paysAt_4 : decode cX11_paysAt 4 = .ok (.invokevirtual 352, 3) := by decide +kernel
theorem dX11_paysAt_7 : decode cX11_paysAt 7 = .ok (.aload_n 0, 1) := by decide +kernel
theorem dX11_paysAt_8 : decode cX11_paysAt 8 = .ok (.iconst 0, 1) := by decide +kernel
theorem dX11_paysAt_9 : decode cX11_paysAt 9 = .ok (.aload_n 0, 1) := by decide +kernel
theorem dX11_paysAt_10 : decode cX11_paysAt 10 = .ok (.getfield 110, 3) := by decide +kernel
theorem dX11_paysAt_13 : decode cX11_paysAt 13 = .ok (.iconst 0, 1) := by decide +kernel
theorem dX11_paysAt_14 : decode cX11_paysAt 14 = .ok (.iaload, 1) := by decide +kernel
theorem dX11_paysAt_15 : decode cX11_paysAt 15 = .ok (.invokevirtual 356, 3) := by decide +kernel
theorem dX11_paysAt_18 : decode cX11_paysAt 18 = .ok (.ireturn, 1) := by decide +kernel
theorem dX11_restsAt_0 : decode cX11_restsAt 0 = .ok (.aload_n 0, 1) := by decide +kernel
theorem dX11_restsAt_1 : decode cX11_restsAt 1 = .ok (.iload_n 1, 1) := by decide +kernel
theorem dX11_restsAt_2 : decode cX11_restsAt 2 = .ok (.iload_n 2, 1) := by decide +kernel
theorem dX11_restsAt_3 : decode cX11_restsAt 3 = .ok (.iload_n 3, 1) := by decide +kernel
theorem dX11_restsAt_4 : decode cX11_restsAt 4 = .ok (.invokevirtual 352, 3) := by decide +kernel
theorem dX11_restsAt_7 : decode cX11_restsAt 7 = .ok (.aload_n 0, 1) := by decide +kernel
theorem dX11_restsAt_8 : decode cX11_restsAt 8 = .ok (.iconst 1, 1) := by decide +kernel
theorem dX11_restsAt_9 : decode cX11_restsAt 9 = .ok (.aload_n 0, 1) := by decide +kernel
theorem dX11_restsAt_10 : decode cX11_restsAt 10 = .ok (.getfield 110, 3) := by decide +kernel
theorem dX11_restsAt_13 : decode cX11_restsAt 13 = .ok (.iconst 1, 1) := by decide +kernel
theorem dX11_restsAt_14 : decode cX11_restsAt 14 = .ok (.iaload, 1) := by decide +kernel
theorem dX11_restsAt_15 : decode cX11_restsAt 15 = .ok (.invokevirtual 356, 3) := by decide +kernel
theorem dX11_restsAt_18 : decode cX11_restsAt 18 = .ok (.ireturn, 1) := by decide +kernel
theorem dX11_looksAll_0 : decode cX11_looksAll 0 = .ok (.aload_n 0, 1) := by decide +kernel
theorem dX11_looksAll_1 : decode cX11_looksAll 1 = .ok (.iload_n 1, 1) := by decide +kernel
theorem dX11_looksAll_2 : decode cX11_looksAll 2 = .ok (.invokevirtual 349, 3) := by decide +kernel
theorem dX11_looksAll_5 : decode cX11_looksAll 5 = .ok (.aload_n 0, 1) := by decide +kernel
theorem dX11_looksAll_6 : decode cX11_looksAll 6 = .ok (.getfield 110, 3) := by decide +kernel
theorem dX11_looksAll_9 : decode cX11_looksAll 9 = .ok (.iconst 0, 1) := by decide +kernel
theorem dX11_looksAll_10 : decode cX11_looksAll 10 = .ok (.iconst 0, 1) := by decide +kernel
theorem dX11_looksAll_11 : decode cX11_looksAll 11 = .ok (.iastore, 1) := by decide +kernel
theorem dX11_looksAll_12 : decode cX11_looksAll 12 = .ok (.aload_n 0, 1) := by decide +kernel
theorem dX11_looksAll_13 : decode cX11_looksAll 13 = .ok (.getfield 110, 3) := by decide +kernel
theorem dX11_looksAll_16 : decode cX11_looksAll 16 = .ok (.iconst 1, 1) := by decide +kernel
theorem dX11_looksAll_17 : decode cX11_looksAll 17 = .ok (.aload_n 0, 1) := by decide +kernel
theorem dX11_looksAll_18 : decode cX11_looksAll 18 = .ok (.iload_n 1, 1) := by decide +kernel
theorem dX11_looksAll_19 : decode cX11_looksAll 19 = .ok (.invokevirtual 359, 3) := by decide +kernel
theorem dX11_looksAll_22 : decode cX11_looksAll 22 = .ok (.iastore, 1) := by decide +kernel
theorem dX11_looksAll_23 : decode cX11_looksAll 23 = .ok (.aload_n 0, 1) := by decide +kernel
theorem dX11_looksAll_24 : decode cX11_looksAll 24 = .ok (.getfield 110, 3) := by decide +kernel
theorem dX11_looksAll_27 : decode cX11_looksAll 27 = .ok (.iconst 2, 1) := by decide +kernel
theorem dX11_looksAll_28 : decode cX11_looksAll 28 = .ok (.iconst 0, 1) := by decide +kernel
theorem dX11_looksAll_29 : decode cX11_looksAll 29 = .ok (.iastore, 1) := by decide +kernel
theorem dX11_looksAll_30 : decode cX11_looksAll 30 = .ok (.aload_n 0, 1) := by decide +kernel
theorem dX11_looksAll_31 : decode cX11_looksAll 31 = .ok (.getfield 110, 3) := by decide +kernel
theorem dX11_looksAll_34 : decode cX11_looksAll 34 = .ok (.iconst 3, 1) := by decide +kernel
theorem dX11_looksAll_35 : decode cX11_looksAll 35 = .ok (.iconst 0, 1) := by decide +kernel
theorem dX11_looksAll_36 : decode cX11_looksAll 36 = .ok (.iastore, 1) := by decide +kernel
theorem dX11_looksAll_37 : decode cX11_looksAll 37 = .ok (.aload_n 0, 1) := by decide +kernel
theorem dX11_looksAll_38 : decode cX11_looksAll 38 = .ok (.getfield 110, 3) := by decide +kernel
theorem dX11_looksAll_41 : decode cX11_looksAll 41 = .ok (.bipush 7, 2) := by decide +kernel
theorem dX11_looksAll_43 : decode cX11_looksAll 43 = .ok (.iload_n 1, 1) := by decide +kernel
theorem dX11_looksAll_44 : decode cX11_looksAll 44 = .ok (.iastore, 1) := by decide +kernel
theorem dX11_looksAll_45 : decode cX11_looksAll 45 = .ok (.aload_n 0, 1) := by decide +kernel
theorem dX11_looksAll_46 : decode cX11_looksAll 46 = .ok (.getfield 110, 3) := by decide +kernel
theorem dX11_looksAll_49 : decode cX11_looksAll 49 = .ok (.bipush 8, 2) := by decide +kernel
theorem dX11_looksAll_51 : decode cX11_looksAll 51 = .ok (.aload_n 0, 1) := by decide +kernel
theorem dX11_looksAll_52 : decode cX11_looksAll 52 = .ok (.iload_n 1, 1) := by decide +kernel
theorem dX11_looksAll_53 : decode cX11_looksAll 53 = .ok (.invokevirtual 362, 3) := by decide +kernel
theorem dX11_looksAll_56 : decode cX11_looksAll 56 = .ok (.invokestatic 365, 3) := by decide +kernel
theorem dX11_looksAll_59 : decode cX11_looksAll 59 = .ok (.iastore, 1) := by decide +kernel
theorem dX11_looksAll_60 : decode cX11_looksAll 60 = .ok (.return_, 1) := by decide +kernel
theorem dX11_wearsOf_0 : decode cX11_wearsOf 0 = .ok (.aload_n 0, 1) := by decide +kernel
theorem dX11_wearsOf_1 : decode cX11_wearsOf 1 = .ok (.iload_n 1, 1) := by decide +kernel
theorem dX11_wearsOf_2 : decode cX11_wearsOf 2 = .ok (.invokevirtual 362, 3) := by decide +kernel
theorem dX11_wearsOf_5 : decode cX11_wearsOf 5 = .ok (.ifCond .ne 5, 3) := by decide +kernel
theorem dX11_wearsOf_8 : decode cX11_wearsOf 8 = .ok (.iconst 0, 1) := by decide +kernel
theorem dX11_wearsOf_9 : decode cX11_wearsOf 9 = .ok (.ireturn, 1) := by decide +kernel
theorem dX11_wearsOf_10 : decode cX11_wearsOf 10 = .ok (.aload_n 0, 1) := by decide +kernel
theorem dX11_wearsOf_11 : decode cX11_wearsOf 11 = .ok (.iload_n 1, 1) := by decide +kernel
theorem dX11_wearsOf_12 : decode cX11_wearsOf 12 = .ok (.invokevirtual 368, 3) := by decide +kernel
theorem dX11_wearsOf_15 : decode cX11_wearsOf 15 = .ok (.aload_n 0, 1) := by decide +kernel
theorem dX11_wearsOf_16 : decode cX11_wearsOf 16 = .ok (.iconst 2, 1) := by decide +kernel
theorem dX11_wearsOf_17 : decode cX11_wearsOf 17 = .ok (.iconst 1, 1) := by decide +kernel
theorem dX11_wearsOf_18 : decode cX11_wearsOf 18 = .ok (.invokevirtual 356, 3) := by decide +kernel
theorem dX11_wearsOf_21 : decode cX11_wearsOf 21 = .ok (.ireturn, 1) := by decide +kernel
theorem dX11_sellsOf_0 : decode cX11_sellsOf 0 = .ok (.aload_n 0, 1) := by decide +kernel
theorem dX11_sellsOf_1 : decode cX11_sellsOf 1 = .ok (.iload_n 1, 1) := by decide +kernel
theorem dX11_sellsOf_2 : decode cX11_sellsOf 2 = .ok (.invokevirtual 368, 3) := by decide +kernel
theorem dX11_sellsOf_5 : decode cX11_sellsOf 5 = .ok (.aload_n 0, 1) := by decide +kernel
theorem dX11_sellsOf_6 : decode cX11_sellsOf 6 = .ok (.iconst 3, 1) := by decide +kernel
theorem dX11_sellsOf_7 : decode cX11_sellsOf 7 = .ok (.aload_n 0, 1) := by decide +kernel
theorem dX11_sellsOf_8 : decode cX11_sellsOf 8 = .ok (.getfield 110, 3) := by decide +kernel
theorem dX11_sellsOf_11 : decode cX11_sellsOf 11 = .ok (.iconst 5, 1) := by decide +kernel
theorem dX11_sellsOf_12 : decode cX11_sellsOf 12 = .ok (.iaload, 1) := by decide +kernel
theorem dX11_sellsOf_13 : decode cX11_sellsOf 13 = .ok (.invokevirtual 356, 3) := by decide +kernel
theorem dX11_sellsOf_16 : decode cX11_sellsOf 16 = .ok (.ireturn, 1) := by decide +kernel
theorem dX11_othersOf_0 : decode cX11_othersOf 0 = .ok (.aload_n 0, 1) := by decide +kernel
theorem dX11_othersOf_1 : decode cX11_othersOf 1 = .ok (.aload_n 0, 1) := by decide +kernel
theorem dX11_othersOf_2 : decode cX11_othersOf 2 = .ok (.getfield 119, 3) := by decide +kernel
theorem dX11_othersOf_5 : decode cX11_othersOf 5 = .ok (.iload_n 1, 1) := by decide +kernel
theorem dX11_othersOf_6 : decode cX11_othersOf 6 = .ok (.iaload, 1) := by decide +kernel
theorem dX11_othersOf_7 : decode cX11_othersOf 7 = .ok (.invokevirtual 362, 3) := by decide +kernel
theorem dX11_othersOf_10 : decode cX11_othersOf 10 = .ok (.invokestatic 365, 3) := by decide +kernel
theorem dX11_othersOf_13 : decode cX11_othersOf 13 = .ok (.iconst 1, 1) := by decide +kernel
theorem dX11_othersOf_14 : decode cX11_othersOf 14 = .ok (.isub, 1) := by decide +kernel
theorem dX11_othersOf_15 : decode cX11_othersOf 15 = .ok (.ireturn, 1) := by decide +kernel
theorem dX11_paysOf_0 : decode cX11_paysOf 0 = .ok (.aload_n 0, 1) := by decide +kernel
theorem dX11_paysOf_1 : decode cX11_paysOf 1 = .ok (.getfield 119, 3) := by decide +kernel
theorem dX11_paysOf_4 : decode cX11_paysOf 4 = .ok (.iload_n 1, 1) := by decide +kernel
theorem dX11_paysOf_5 : decode cX11_paysOf 5 = .ok (.iaload, 1) := by decide +kernel
theorem dX11_paysOf_6 : decode cX11_paysOf 6 = .ok (.ifCond .ge 7, 3) := by decide +kernel
theorem dX11_paysOf_9 : decode cX11_paysOf 9 = .ok (.iconst 0, 1) := by decide +kernel
theorem dX11_paysOf_10 : decode cX11_paysOf 10 = .ok (.goto 19, 3) := by decide +kernel
theorem dX11_paysOf_13 : decode cX11_paysOf 13 = .ok (.aload_n 0, 1) := by decide +kernel
theorem dX11_paysOf_14 : decode cX11_paysOf 14 = .ok (.iload_n 1, 1) := by decide +kernel
theorem dX11_paysOf_15 : decode cX11_paysOf 15 = .ok (.aload_n 0, 1) := by decide +kernel
theorem dX11_paysOf_16 : decode cX11_paysOf 16 = .ok (.getfield 119, 3) := by decide +kernel
theorem dX11_paysOf_19 : decode cX11_paysOf 19 = .ok (.iload_n 1, 1) := by decide +kernel
theorem dX11_paysOf_20 : decode cX11_paysOf 20 = .ok (.iaload, 1) := by decide +kernel
theorem dX11_paysOf_21 : decode cX11_paysOf 21 = .ok (.aload_n 0, 1) := by decide +kernel
theorem dX11_paysOf_22 : decode cX11_paysOf 22 = .ok (.iload_n 1, 1) := by decide +kernel
theorem dX11_paysOf_23 : decode cX11_paysOf 23 = .ok (.invokevirtual 371, 3) := by decide +kernel
theorem dX11_paysOf_26 : decode cX11_paysOf 26 = .ok (.invokevirtual 374, 3) := by decide +kernel
theorem dX11_paysOf_29 : decode cX11_paysOf 29 = .ok (.ireturn, 1) := by decide +kernel
theorem dX11_restsOf_0 : decode cX11_restsOf 0 = .ok (.aload_n 0, 1) := by decide +kernel
theorem dX11_restsOf_1 : decode cX11_restsOf 1 = .ok (.getfield 119, 3) := by decide +kernel
theorem dX11_restsOf_4 : decode cX11_restsOf 4 = .ok (.iload_n 1, 1) := by decide +kernel
theorem dX11_restsOf_5 : decode cX11_restsOf 5 = .ok (.iaload, 1) := by decide +kernel
theorem dX11_restsOf_6 : decode cX11_restsOf 6 = .ok (.ifCond .ge 7, 3) := by decide +kernel
theorem dX11_restsOf_9 : decode cX11_restsOf 9 = .ok (.iconst 0, 1) := by decide +kernel
theorem dX11_restsOf_10 : decode cX11_restsOf 10 = .ok (.goto 19, 3) := by decide +kernel
theorem dX11_restsOf_13 : decode cX11_restsOf 13 = .ok (.aload_n 0, 1) := by decide +kernel
theorem dX11_restsOf_14 : decode cX11_restsOf 14 = .ok (.iload_n 1, 1) := by decide +kernel
theorem dX11_restsOf_15 : decode cX11_restsOf 15 = .ok (.aload_n 0, 1) := by decide +kernel
theorem dX11_restsOf_16 : decode cX11_restsOf 16 = .ok (.getfield 119, 3) := by decide +kernel
theorem dX11_restsOf_19 : decode cX11_restsOf 19 = .ok (.iload_n 1, 1) := by decide +kernel
theorem dX11_restsOf_20 : decode cX11_restsOf 20 = .ok (.iaload, 1) := by decide +kernel
theorem dX11_restsOf_21 : decode cX11_restsOf 21 = .ok (.aload_n 0, 1) := by decide +kernel
theorem dX11_restsOf_22 : decode cX11_restsOf 22 = .ok (.iload_n 1, 1) := by decide +kernel
theorem dX11_restsOf_23 : decode cX11_restsOf 23 = .ok (.invokevirtual 371, 3) := by decide +kernel
theorem dX11_restsOf_26 : decode cX11_restsOf 26 = .ok (.invokevirtual 377, 3) := by decide +kernel
theorem dX11_restsOf_29 : decode cX11_restsOf 29 = .ok (.ireturn, 1) := by decide +kernel
theorem dX11_dueAll_0 : decode cX11_dueAll 0 = .ok (.iconst 0, 1) := by decide +kernel
theorem dX11_dueAll_1 : decode cX11_dueAll 1 = .ok (.istore_n 1, 1) := by decide +kernel
theorem dX11_dueAll_2 : decode cX11_dueAll 2 = .ok (.iconst 0, 1) := by decide +kernel
theorem dX11_dueAll_3 : decode cX11_dueAll 3 = .ok (.istore_n 2, 1) := by decide +kernel
theorem dX11_dueAll_4 : decode cX11_dueAll 4 = .ok (.iload_n 2, 1) := by decide +kernel
theorem dX11_dueAll_5 : decode cX11_dueAll 5 = .ok (.aload_n 0, 1) := by decide +kernel
theorem dX11_dueAll_6 : decode cX11_dueAll 6 = .ok (.getfield 55, 3) := by decide +kernel
theorem dX11_dueAll_9 : decode cX11_dueAll 9 = .ok (.aload_n 0, 1) := by decide +kernel
theorem dX11_dueAll_10 : decode cX11_dueAll 10 = .ok (.getfield 236, 3) := by decide +kernel
theorem dX11_dueAll_13 : decode cX11_dueAll 13 = .ok (.iaload, 1) := by decide +kernel
theorem dX11_dueAll_14 : decode cX11_dueAll 14 = .ok (.if_icmp .ge 17, 3) := by decide +kernel
theorem dX11_dueAll_17 : decode cX11_dueAll 17 = .ok (.iload_n 1, 1) := by decide +kernel
theorem dX11_dueAll_18 : decode cX11_dueAll 18 = .ok (.aload_n 0, 1) := by decide +kernel
theorem dX11_dueAll_19 : decode cX11_dueAll 19 = .ok (.iload_n 2, 1) := by decide +kernel
theorem dX11_dueAll_20 : decode cX11_dueAll 20 = .ok (.invokevirtual 380, 3) := by decide +kernel
theorem dX11_dueAll_23 : decode cX11_dueAll 23 = .ok (.iadd, 1) := by decide +kernel
theorem dX11_dueAll_24 : decode cX11_dueAll 24 = .ok (.istore_n 1, 1) := by decide +kernel
theorem dX11_dueAll_25 : decode cX11_dueAll 25 = .ok (.iinc 2 1, 3) := by decide +kernel
theorem dX11_dueAll_28 : decode cX11_dueAll 28 = .ok (.goto (-24), 3) := by decide +kernel
theorem dX11_dueAll_31 : decode cX11_dueAll 31 = .ok (.iload_n 1, 1) := by decide +kernel
theorem dX11_dueAll_32 : decode cX11_dueAll 32 = .ok (.ireturn, 1) := by decide +kernel
theorem dX11_restsIn_0 : decode cX11_restsIn 0 = .ok (.aload_n 0, 1) := by decide +kernel
theorem dX11_restsIn_1 : decode cX11_restsIn 1 = .ok (.getfield 119, 3) := by decide +kernel
theorem dX11_restsIn_4 : decode cX11_restsIn 4 = .ok (.iload_n 1, 1) := by decide +kernel
theorem dX11_restsIn_5 : decode cX11_restsIn 5 = .ok (.iaload, 1) := by decide +kernel
theorem dX11_restsIn_6 : decode cX11_restsIn 6 = .ok (.ifCond .lt 38, 3) := by decide +kernel
theorem dX11_restsIn_9 : decode cX11_restsIn 9 = .ok (.aload_n 0, 1) := by decide +kernel
theorem dX11_restsIn_10 : decode cX11_restsIn 10 = .ok (.getfield 119, 3) := by decide +kernel
theorem dX11_restsIn_13 : decode cX11_restsIn 13 = .ok (.bipush 7, 2) := by decide +kernel
theorem dX11_restsIn_15 : decode cX11_restsIn 15 = .ok (.iload_n 1, 1) := by decide +kernel
theorem dX11_restsIn_16 : decode cX11_restsIn 16 = .ok (.iadd, 1) := by decide +kernel
theorem dX11_restsIn_17 : decode cX11_restsIn 17 = .ok (.aload_n 0, 1) := by decide +kernel
theorem dX11_restsIn_18 : decode cX11_restsIn 18 = .ok (.getfield 119, 3) := by decide +kernel
theorem dX11_restsIn_21 : decode cX11_restsIn 21 = .ok (.bipush 7, 2) := by decide +kernel
theorem dX11_restsIn_23 : decode cX11_restsIn 23 = .ok (.iload_n 1, 1) := by decide +kernel
theorem dX11_restsIn_24 : decode cX11_restsIn 24 = .ok (.iadd, 1) := by decide +kernel
theorem dX11_restsIn_25 : decode cX11_restsIn 25 = .ok (.iaload, 1) := by decide +kernel
theorem dX11_restsIn_26 : decode cX11_restsIn 26 = .ok (.aload_n 0, 1) := by decide +kernel
theorem dX11_restsIn_27 : decode cX11_restsIn 27 = .ok (.getfield 122, 3) := by decide +kernel
theorem dX11_restsIn_30 : decode cX11_restsIn 30 = .ok (.iload_n 1, 1) := by decide +kernel
theorem dX11_restsIn_31 : decode cX11_restsIn 31 = .ok (.iaload, 1) := by decide +kernel
theorem dX11_restsIn_32 : decode cX11_restsIn 32 = .ok (.iadd, 1) := by decide +kernel
theorem dX11_restsIn_33 : decode cX11_restsIn 33 = .ok (.iconst 0, 1) := by decide +kernel
theorem dX11_restsIn_34 : decode cX11_restsIn 34 = .ok (.sipush 999, 3) := by decide +kernel
theorem dX11_restsIn_37 : decode cX11_restsIn 37 = .ok (.invokestatic 343, 3) := by decide +kernel
theorem dX11_restsIn_40 : decode cX11_restsIn 40 = .ok (.iastore, 1) := by decide +kernel
theorem dX11_restsIn_41 : decode cX11_restsIn 41 = .ok (.goto 42, 3) := by decide +kernel
theorem dX11_restsIn_44 : decode cX11_restsIn 44 = .ok (.aload_n 0, 1) := by decide +kernel
theorem dX11_restsIn_45 : decode cX11_restsIn 45 = .ok (.getfield 119, 3) := by decide +kernel
theorem dX11_restsIn_48 : decode cX11_restsIn 48 = .ok (.bipush 14, 2) := by decide +kernel
theorem dX11_restsIn_50 : decode cX11_restsIn 50 = .ok (.iload_n 1, 1) := by decide +kernel
theorem dX11_restsIn_51 : decode cX11_restsIn 51 = .ok (.iadd, 1) := by decide +kernel
theorem dX11_restsIn_52 : decode cX11_restsIn 52 = .ok (.iaload, 1) := by decide +kernel
theorem dX11_restsIn_53 : decode cX11_restsIn 53 = .ok (.ifCond .ne 30, 3) := by decide +kernel
theorem dX11_restsIn_56 : decode cX11_restsIn 56 = .ok (.aload_n 0, 1) := by decide +kernel
theorem dX11_restsIn_57 : decode cX11_restsIn 57 = .ok (.getfield 119, 3) := by decide +kernel
theorem dX11_restsIn_60 : decode cX11_restsIn 60 = .ok (.bipush 7, 2) := by decide +kernel
theorem dX11_restsIn_62 : decode cX11_restsIn 62 = .ok (.iload_n 1, 1) := by decide +kernel
theorem dX11_restsIn_63 : decode cX11_restsIn 63 = .ok (.iadd, 1) := by decide +kernel
theorem dX11_restsIn_64 : decode cX11_restsIn 64 = .ok (.aload_n 0, 1) := by decide +kernel
theorem dX11_restsIn_65 : decode cX11_restsIn 65 = .ok (.getfield 119, 3) := by decide +kernel
theorem dX11_restsIn_68 : decode cX11_restsIn 68 = .ok (.bipush 7, 2) := by decide +kernel
theorem dX11_restsIn_70 : decode cX11_restsIn 70 = .ok (.iload_n 1, 1) := by decide +kernel
theorem dX11_restsIn_71 : decode cX11_restsIn 71 = .ok (.iadd, 1) := by decide +kernel
theorem dX11_restsIn_72 : decode cX11_restsIn 72 = .ok (.iaload, 1) := by decide +kernel
theorem dX11_restsIn_73 : decode cX11_restsIn 73 = .ok (.iconst 1, 1) := by decide +kernel
theorem dX11_restsIn_74 : decode cX11_restsIn 74 = .ok (.isub, 1) := by decide +kernel
theorem dX11_restsIn_75 : decode cX11_restsIn 75 = .ok (.iconst 0, 1) := by decide +kernel
theorem dX11_restsIn_76 : decode cX11_restsIn 76 = .ok (.sipush 999, 3) := by decide +kernel
theorem dX11_restsIn_79 : decode cX11_restsIn 79 = .ok (.invokestatic 343, 3) := by decide +kernel
theorem dX11_restsIn_82 : decode cX11_restsIn 82 = .ok (.iastore, 1) := by decide +kernel
theorem dX11_restsIn_83 : decode cX11_restsIn 83 = .ok (.return_, 1) := by decide +kernel
theorem dX11_mayDie_0 : decode cX11_mayDie 0 = .ok (.aload_n 0, 1) := by decide +kernel
theorem dX11_mayDie_1 : decode cX11_mayDie 1 = .ok (.getfield 323, 3) := by decide +kernel
theorem dX11_mayDie_4 : decode cX11_mayDie 4 = .ok (.ifCond .ne 33, 3) := by decide +kernel
theorem dX11_mayDie_7 : decode cX11_mayDie 7 = .ok (.aload_n 0, 1) := by decide +kernel
theorem dX11_mayDie_8 : decode cX11_mayDie 8 = .ok (.getfield 119, 3) := by decide +kernel
theorem dX11_mayDie_11 : decode cX11_mayDie 11 = .ok (.iload_n 1, 1) := by decide +kernel
theorem dX11_mayDie_12 : decode cX11_mayDie 12 = .ok (.iaload, 1) := by decide +kernel
theorem dX11_mayDie_13 : decode cX11_mayDie 13 = .ok (.ifCond .lt 24, 3) := by decide +kernel
theorem dX11_mayDie_16 : decode cX11_mayDie 16 = .ok (.aload_n 0, 1) := by decide +kernel
theorem dX11_mayDie_17 : decode cX11_mayDie 17 = .ok (.getfield 119, 3) := by decide +kernel
theorem dX11_mayDie_20 : decode cX11_mayDie 20 = .ok (.bipush 7, 2) := by decide +kernel
theorem dX11_mayDie_22 : decode cX11_mayDie 22 = .ok (.iload_n 1, 1) := by decide +kernel
theorem dX11_mayDie_23 : decode cX11_mayDie 23 = .ok (.iadd, 1) := by decide +kernel
theorem dX11_mayDie_24 : decode cX11_mayDie 24 = .ok (.iaload, 1) := by decide +kernel
theorem dX11_mayDie_25 : decode cX11_mayDie 25 = .ok (.aload_n 0, 1) := by decide +kernel
theorem dX11_mayDie_26 : decode cX11_mayDie 26 = .ok (.getfield 73, 3) := by decide +kernel
theorem dX11_mayDie_29 : decode cX11_mayDie 29 = .ok (.aload_n 0, 1) := by decide +kernel
theorem dX11_mayDie_30 : decode cX11_mayDie 30 = .ok (.getfield 236, 3) := by decide +kernel
theorem dX11_mayDie_33 : decode cX11_mayDie 33 = .ok (.iaload, 1) := by decide +kernel
theorem dX11_mayDie_34 : decode cX11_mayDie 34 = .ok (.if_icmp .ge 4, 3) := by decide +kernel
theorem dX11_mayDie_37 : decode cX11_mayDie 37 = .ok (.return_, 1) := by decide +kernel
theorem dX11_mayDie_38 : decode cX11_mayDie 38 = .ok (.aload_n 0, 1) := by decide +kernel
theorem dX11_mayDie_39 : decode cX11_mayDie 39 = .ok (.bipush 8, 2) := by decide +kernel
theorem dX11_mayDie_41 : decode cX11_mayDie 41 = .ok (.aload_n 0, 1) := by decide +kernel
theorem dX11_mayDie_42 : decode cX11_mayDie 42 = .ok (.getfield 119, 3) := by decide +kernel
theorem dX11_mayDie_45 : decode cX11_mayDie 45 = .ok (.bipush 29, 2) := by decide +kernel
theorem dX11_mayDie_47 : decode cX11_mayDie 47 = .ok (.iaload, 1) := by decide +kernel
theorem dX11_mayDie_48 : decode cX11_mayDie 48 = .ok (.imul, 1) := by decide +kernel
theorem dX11_mayDie_49 : decode cX11_mayDie 49 = .ok (.iload_n 1, 1) := by decide +kernel
theorem dX11_mayDie_50 : decode cX11_mayDie 50 = .ok (.iadd, 1) := by decide +kernel
theorem dX11_mayDie_51 : decode cX11_mayDie 51 = .ok (.invokevirtual 383, 3) := by decide +kernel
theorem dX11_mayDie_54 : decode cX11_mayDie 54 = .ok (.aload_n 0, 1) := by decide +kernel
theorem dX11_mayDie_55 : decode cX11_mayDie 55 = .ok (.getfield 119, 3) := by decide +kernel
theorem dX11_mayDie_58 : decode cX11_mayDie 58 = .ok (.bipush 7, 2) := by decide +kernel
theorem dX11_mayDie_60 : decode cX11_mayDie 60 = .ok (.iload_n 1, 1) := by decide +kernel
theorem dX11_mayDie_61 : decode cX11_mayDie 61 = .ok (.iadd, 1) := by decide +kernel
theorem dX11_mayDie_62 : decode cX11_mayDie 62 = .ok (.iaload, 1) := by decide +kernel
theorem dX11_mayDie_63 : decode cX11_mayDie 63 = .ok (.aload_n 0, 1) := by decide +kernel
theorem dX11_mayDie_64 : decode cX11_mayDie 64 = .ok (.getfield 73, 3) := by decide +kernel
theorem dX11_mayDie_67 : decode cX11_mayDie 67 = .ok (.aload_n 0, 1) := by decide +kernel
theorem dX11_mayDie_68 : decode cX11_mayDie 68 = .ok (.getfield 236, 3) := by decide +kernel
theorem dX11_mayDie_71 : decode cX11_mayDie 71 = .ok (.iaload, 1) := by decide +kernel
theorem dX11_mayDie_72 : decode cX11_mayDie 72 = .ok (.isub, 1) := by decide +kernel
theorem dX11_mayDie_73 : decode cX11_mayDie 73 = .ok (.bipush 10, 2) := by decide +kernel
theorem dX11_mayDie_75 : decode cX11_mayDie 75 = .ok (.iadd, 1) := by decide +kernel
theorem dX11_mayDie_76 : decode cX11_mayDie 76 = .ok (.if_icmp .lt 4, 3) := by decide +kernel
theorem dX11_mayDie_79 : decode cX11_mayDie 79 = .ok (.return_, 1) := by decide +kernel
theorem dX11_mayDie_80 : decode cX11_mayDie 80 = .ok (.aload_n 0, 1) := by decide +kernel
theorem dX11_mayDie_81 : decode cX11_mayDie 81 = .ok (.getfield 119, 3) := by decide +kernel
theorem dX11_mayDie_84 : decode cX11_mayDie 84 = .ok (.bipush 14, 2) := by decide +kernel
theorem dX11_mayDie_86 : decode cX11_mayDie 86 = .ok (.iload_n 1, 1) := by decide +kernel
theorem dX11_mayDie_87 : decode cX11_mayDie 87 = .ok (.iadd, 1) := by decide +kernel
theorem dX11_mayDie_88 : decode cX11_mayDie 88 = .ok (.iconst 1, 1) := by decide +kernel
theorem dX11_mayDie_89 : decode cX11_mayDie 89 = .ok (.iastore, 1) := by decide +kernel
theorem dX11_mayDie_90 : decode cX11_mayDie 90 = .ok (.aload_n 0, 1) := by decide +kernel
theorem dX11_mayDie_91 : decode cX11_mayDie 91 = .ok (.getfield 119, 3) := by decide +kernel
theorem dX11_mayDie_94 : decode cX11_mayDie 94 = .ok (.iload_n 1, 1) := by decide +kernel
theorem dX11_mayDie_95 : decode cX11_mayDie 95 = .ok (.bipush (-2), 2) := by decide +kernel
theorem dX11_mayDie_97 : decode cX11_mayDie 97 = .ok (.iastore, 1) := by decide +kernel
theorem dX11_mayDie_98 : decode cX11_mayDie 98 = .ok (.return_, 1) := by decide +kernel
theorem dX11_weekGoes_0 : decode cX11_weekGoes 0 = .ok (.aload_n 0, 1) := by decide +kernel
theorem dX11_weekGoes_1 : decode cX11_weekGoes 1 = .ok (.invokevirtual 386, 3) := by decide +kernel
theorem dX11_weekGoes_4 : decode cX11_weekGoes 4 = .ok (.istore_n 1, 1) := by decide +kernel
theorem dX11_weekGoes_5 : decode cX11_weekGoes 5 = .ok (.iconst 0, 1) := by decide +kernel
theorem dX11_weekGoes_6 : decode cX11_weekGoes 6 = .ok (.istore_n 2, 1) := by decide +kernel
theorem dX11_weekGoes_7 : decode cX11_weekGoes 7 = .ok (.iload_n 2, 1) := by decide +kernel
theorem dX11_weekGoes_8 : decode cX11_weekGoes 8 = .ok (.aload_n 0, 1) := by decide +kernel
theorem dX11_weekGoes_9 : decode cX11_weekGoes 9 = .ok (.getfield 55, 3) := by decide +kernel
theorem dX11_weekGoes_12 : decode cX11_weekGoes 12 = .ok (.aload_n 0, 1) := by decide +kernel
theorem dX11_weekGoes_13 : decode cX11_weekGoes 13 = .ok (.getfield 236, 3) := by decide +kernel
theorem dX11_weekGoes_16 : decode cX11_weekGoes 16 = .ok (.iaload, 1) := by decide +kernel
theorem dX11_weekGoes_17 : decode cX11_weekGoes 17 = .ok (.if_icmp .ge 20, 3) := by decide +kernel
theorem dX11_weekGoes_20 : decode cX11_weekGoes 20 = .ok (.aload_n 0, 1) := by decide +kernel
theorem dX11_weekGoes_21 : decode cX11_weekGoes 21 = .ok (.getfield 122, 3) := by decide +kernel
theorem dX11_weekGoes_24 : decode cX11_weekGoes 24 = .ok (.iload_n 2, 1) := by decide +kernel
theorem dX11_weekGoes_25 : decode cX11_weekGoes 25 = .ok (.aload_n 0, 1) := by decide +kernel
theorem dX11_weekGoes_26 : decode cX11_weekGoes 26 = .ok (.iload_n 2, 1) := by decide +kernel
theorem dX11_weekGoes_27 : decode cX11_weekGoes 27 = .ok (.invokevirtual 389, 3) := by decide +kernel
theorem dX11_weekGoes_30 : decode cX11_weekGoes 30 = .ok (.iastore, 1) := by decide +kernel
theorem dX11_weekGoes_31 : decode cX11_weekGoes 31 = .ok (.iinc 2 1, 3) := by decide +kernel
theorem dX11_weekGoes_34 : decode cX11_weekGoes 34 = .ok (.goto (-27), 3) := by decide +kernel
theorem dX11_weekGoes_37 : decode cX11_weekGoes 37 = .ok (.iconst 0, 1) := by decide +kernel
theorem dX11_weekGoes_38 : decode cX11_weekGoes 38 = .ok (.istore_n 2, 1) := by decide +kernel
theorem dX11_weekGoes_39 : decode cX11_weekGoes 39 = .ok (.iload_n 2, 1) := by decide +kernel
theorem dX11_weekGoes_40 : decode cX11_weekGoes 40 = .ok (.aload_n 0, 1) := by decide +kernel
theorem dX11_weekGoes_41 : decode cX11_weekGoes 41 = .ok (.getfield 46, 3) := by decide +kernel
theorem dX11_weekGoes_44 : decode cX11_weekGoes 44 = .ok (.aload_n 0, 1) := by decide +kernel
theorem dX11_weekGoes_45 : decode cX11_weekGoes 45 = .ok (.getfield 236, 3) := by decide +kernel
theorem dX11_weekGoes_48 : decode cX11_weekGoes 48 = .ok (.iaload, 1) := by decide +kernel
theorem dX11_weekGoes_49 : decode cX11_weekGoes 49 = .ok (.if_icmp .ge 20, 3) := by decide +kernel
theorem dX11_weekGoes_52 : decode cX11_weekGoes 52 = .ok (.aload_n 0, 1) := by decide +kernel
theorem dX11_weekGoes_53 : decode cX11_weekGoes 53 = .ok (.getfield 125, 3) := by decide +kernel
theorem dX11_weekGoes_56 : decode cX11_weekGoes 56 = .ok (.iload_n 2, 1) := by decide +kernel
theorem dX11_weekGoes_57 : decode cX11_weekGoes 57 = .ok (.aload_n 0, 1) := by decide +kernel
theorem dX11_weekGoes_58 : decode cX11_weekGoes 58 = .ok (.iload_n 2, 1) := by decide +kernel
theorem dX11_weekGoes_59 : decode cX11_weekGoes 59 = .ok (.invokevirtual 392, 3) := by decide +kernel
theorem dX11_weekGoes_62 : decode cX11_weekGoes 62 = .ok (.iastore, 1) := by decide +kernel
theorem dX11_weekGoes_63 : decode cX11_weekGoes 63 = .ok (.iinc 2 1, 3) := by decide +kernel
theorem dX11_weekGoes_66 : decode cX11_weekGoes 66 = .ok (.goto (-27), 3) := by decide +kernel
theorem dX11_weekGoes_69 : decode cX11_weekGoes 69 = .ok (.aload_n 0, 1) := by decide +kernel
theorem dX11_weekGoes_70 : decode cX11_weekGoes 70 = .ok (.getfield 119, 3) := by decide +kernel
theorem dX11_weekGoes_73 : decode cX11_weekGoes 73 = .ok (.bipush 30, 2) := by decide +kernel
theorem dX11_weekGoes_75 : decode cX11_weekGoes 75 = .ok (.dup2, 1) := by decide +kernel
theorem dX11_weekGoes_76 : decode cX11_weekGoes 76 = .ok (.iaload, 1) := by decide +kernel
theorem dX11_weekGoes_77 : decode cX11_weekGoes 77 = .ok (.iload_n 1, 1) := by decide +kernel
theorem dX11_weekGoes_78 : decode cX11_weekGoes 78 = .ok (.iadd, 1) := by decide +kernel
theorem dX11_weekGoes_79 : decode cX11_weekGoes 79 = .ok (.iastore, 1) := by decide +kernel
theorem dX11_weekGoes_80 : decode cX11_weekGoes 80 = .ok (.iconst 0, 1) := by decide +kernel
theorem dX11_weekGoes_81 : decode cX11_weekGoes 81 = .ok (.istore_n 2, 1) := by decide +kernel
theorem dX11_weekGoes_82 : decode cX11_weekGoes 82 = .ok (.iload_n 2, 1) := by decide +kernel
theorem dX11_weekGoes_83 : decode cX11_weekGoes 83 = .ok (.aload_n 0, 1) := by decide +kernel
theorem dX11_weekGoes_84 : decode cX11_weekGoes 84 = .ok (.getfield 55, 3) := by decide +kernel
theorem dX11_weekGoes_87 : decode cX11_weekGoes 87 = .ok (.aload_n 0, 1) := by decide +kernel
theorem dX11_weekGoes_88 : decode cX11_weekGoes 88 = .ok (.getfield 236, 3) := by decide +kernel
theorem dX11_weekGoes_91 : decode cX11_weekGoes 91 = .ok (.iaload, 1) := by decide +kernel
theorem dX11_weekGoes_92 : decode cX11_weekGoes 92 = .ok (.if_icmp .ge 14, 3) := by decide +kernel
theorem dX11_weekGoes_95 : decode cX11_weekGoes 95 = .ok (.aload_n 0, 1) := by decide +kernel
theorem dX11_weekGoes_96 : decode cX11_weekGoes 96 = .ok (.iload_n 2, 1) := by decide +kernel
theorem dX11_weekGoes_97 : decode cX11_weekGoes 97 = .ok (.invokevirtual 395, 3) := by decide +kernel
theorem dX11_weekGoes_100 : decode cX11_weekGoes 100 = .ok (.iinc 2 1, 3) := by decide +kernel
theorem dX11_weekGoes_103 : decode cX11_weekGoes 103 = .ok (.goto (-21), 3) := by decide +kernel
theorem dX11_weekGoes_106 : decode cX11_weekGoes 106 = .ok (.iconst 0, 1) := by decide +kernel
theorem dX11_weekGoes_107 : decode cX11_weekGoes 107 = .ok (.istore_n 2, 1) := by decide +kernel
theorem dX11_weekGoes_108 : decode cX11_weekGoes 108 = .ok (.iload_n 2, 1) := by decide +kernel
theorem dX11_weekGoes_109 : decode cX11_weekGoes 109 = .ok (.aload_n 0, 1) := by decide +kernel
theorem dX11_weekGoes_110 : decode cX11_weekGoes 110 = .ok (.getfield 46, 3) := by decide +kernel
theorem dX11_weekGoes_113 : decode cX11_weekGoes 113 = .ok (.aload_n 0, 1) := by decide +kernel
theorem dX11_weekGoes_114 : decode cX11_weekGoes 114 = .ok (.getfield 236, 3) := by decide +kernel
theorem dX11_weekGoes_117 : decode cX11_weekGoes 117 = .ok (.iaload, 1) := by decide +kernel
theorem dX11_weekGoes_118 : decode cX11_weekGoes 118 = .ok (.if_icmp .ge 40, 3) := by decide +kernel
theorem dX11_weekGoes_121 : decode cX11_weekGoes 121 = .ok (.aload_n 0, 1) := by decide +kernel
theorem dX11_weekGoes_122 : decode cX11_weekGoes 122 = .ok (.getfield 119, 3) := by decide +kernel
theorem dX11_weekGoes_125 : decode cX11_weekGoes 125 = .ok (.bipush 21, 2) := by decide +kernel
theorem dX11_weekGoes_127 : decode cX11_weekGoes 127 = .ok (.iload_n 2, 1) := by decide +kernel
theorem dX11_weekGoes_128 : decode cX11_weekGoes 128 = .ok (.iadd, 1) := by decide +kernel
theorem dX11_weekGoes_129 : decode cX11_weekGoes 129 = .ok (.aload_n 0, 1) := by decide +kernel
theorem dX11_weekGoes_130 : decode cX11_weekGoes 130 = .ok (.getfield 119, 3) := by decide +kernel
theorem dX11_weekGoes_133 : decode cX11_weekGoes 133 = .ok (.bipush 21, 2) := by decide +kernel
theorem dX11_weekGoes_135 : decode cX11_weekGoes 135 = .ok (.iload_n 2, 1) := by decide +kernel
theorem dX11_weekGoes_136 : decode cX11_weekGoes 136 = .ok (.iadd, 1) := by decide +kernel
theorem dX11_weekGoes_137 : decode cX11_weekGoes 137 = .ok (.iaload, 1) := by decide +kernel
theorem dX11_weekGoes_138 : decode cX11_weekGoes 138 = .ok (.aload_n 0, 1) := by decide +kernel
theorem dX11_weekGoes_139 : decode cX11_weekGoes 139 = .ok (.getfield 125, 3) := by decide +kernel
theorem dX11_weekGoes_142 : decode cX11_weekGoes 142 = .ok (.iload_n 2, 1) := by decide +kernel
theorem dX11_weekGoes_143 : decode cX11_weekGoes 143 = .ok (.iaload, 1) := by decide +kernel
theorem dX11_weekGoes_144 : decode cX11_weekGoes 144 = .ok (.iadd, 1) := by decide +kernel
theorem dX11_weekGoes_145 : decode cX11_weekGoes 145 = .ok (.iconst 0, 1) := by decide +kernel
theorem dX11_weekGoes_146 : decode cX11_weekGoes 146 = .ok (.bipush 99, 2) := by decide +kernel
theorem dX11_weekGoes_148 : decode cX11_weekGoes 148 = .ok (.invokestatic 343, 3) := by decide +kernel
theorem dX11_weekGoes_151 : decode cX11_weekGoes 151 = .ok (.iastore, 1) := by decide +kernel
theorem dX11_weekGoes_152 : decode cX11_weekGoes 152 = .ok (.iinc 2 1, 3) := by decide +kernel
theorem dX11_weekGoes_155 : decode cX11_weekGoes 155 = .ok (.goto (-47), 3) := by decide +kernel
theorem dX11_weekGoes_158 : decode cX11_weekGoes 158 = .ok (.iconst 0, 1) := by decide +kernel
theorem dX11_weekGoes_159 : decode cX11_weekGoes 159 = .ok (.istore_n 2, 1) := by decide +kernel
theorem dX11_weekGoes_160 : decode cX11_weekGoes 160 = .ok (.iload_n 2, 1) := by decide +kernel
theorem dX11_weekGoes_161 : decode cX11_weekGoes 161 = .ok (.aload_n 0, 1) := by decide +kernel
theorem dX11_weekGoes_162 : decode cX11_weekGoes 162 = .ok (.getfield 55, 3) := by decide +kernel
theorem dX11_weekGoes_165 : decode cX11_weekGoes 165 = .ok (.aload_n 0, 1) := by decide +kernel
theorem dX11_weekGoes_166 : decode cX11_weekGoes 166 = .ok (.getfield 236, 3) := by decide +kernel
theorem dX11_weekGoes_169 : decode cX11_weekGoes 169 = .ok (.iaload, 1) := by decide +kernel
theorem dX11_weekGoes_170 : decode cX11_weekGoes 170 = .ok (.if_icmp .ge 14, 3) := by decide +kernel
theorem dX11_weekGoes_173 : decode cX11_weekGoes 173 = .ok (.aload_n 0, 1) := by decide +kernel
theorem dX11_weekGoes_174 : decode cX11_weekGoes 174 = .ok (.iload_n 2, 1) := by decide +kernel
theorem dX11_weekGoes_175 : decode cX11_weekGoes 175 = .ok (.invokevirtual 398, 3) := by decide +kernel
theorem dX11_weekGoes_178 : decode cX11_weekGoes 178 = .ok (.iinc 2 1, 3) := by decide +kernel
theorem dX11_weekGoes_181 : decode cX11_weekGoes 181 = .ok (.goto (-21), 3) := by decide +kernel
theorem dX11_weekGoes_184 : decode cX11_weekGoes 184 = .ok (.aload_n 0, 1) := by decide +kernel
theorem dX11_weekGoes_185 : decode cX11_weekGoes 185 = .ok (.getfield 119, 3) := by decide +kernel
theorem dX11_weekGoes_188 : decode cX11_weekGoes 188 = .ok (.bipush 29, 2) := by decide +kernel
theorem dX11_weekGoes_190 : decode cX11_weekGoes 190 = .ok (.dup2, 1) := by decide +kernel
theorem dX11_weekGoes_191 : decode cX11_weekGoes 191 = .ok (.iaload, 1) := by decide +kernel
theorem dX11_weekGoes_192 : decode cX11_weekGoes 192 = .ok (.iconst 1, 1) := by decide +kernel
theorem dX11_weekGoes_193 : decode cX11_weekGoes 193 = .ok (.iadd, 1) := by decide +kernel
theorem dX11_weekGoes_194 : decode cX11_weekGoes 194 = .ok (.iastore, 1) := by decide +kernel
theorem dX11_weekGoes_195 : decode cX11_weekGoes 195 = .ok (.return_, 1) := by decide +kernel
theorem dX11_goes_0 : decode cX11_goes 0 = .ok (.iconst 0, 1) := by decide +kernel
theorem dX11_goes_1 : decode cX11_goes 1 = .ok (.istore_n 2, 1) := by decide +kernel
theorem dX11_goes_2 : decode cX11_goes 2 = .ok (.iload_n 2, 1) := by decide +kernel
theorem dX11_goes_3 : decode cX11_goes 3 = .ok (.iload_n 1, 1) := by decide +kernel
theorem dX11_goes_4 : decode cX11_goes 4 = .ok (.if_icmp .ge 13, 3) := by decide +kernel
theorem dX11_goes_7 : decode cX11_goes 7 = .ok (.aload_n 0, 1) := by decide +kernel
theorem dX11_goes_8 : decode cX11_goes 8 = .ok (.invokevirtual 401, 3) := by decide +kernel
theorem dX11_goes_11 : decode cX11_goes 11 = .ok (.iinc 2 1, 3) := by decide +kernel
theorem dX11_goes_14 : decode cX11_goes 14 = .ok (.goto (-12), 3) := by decide +kernel
theorem dX11_goes_17 : decode cX11_goes 17 = .ok (.return_, 1) := by decide +kernel
theorem dX11_sunday_0 : decode cX11_sunday 0 = .ok (.aload_n 0, 1) := by decide +kernel
theorem dX11_sunday_1 : decode cX11_sunday 1 = .ok (.iload_n 1, 1) := by decide +kernel
theorem dX11_sunday_2 : decode cX11_sunday 2 = .ok (.invokevirtual 404, 3) := by decide +kernel
theorem dX11_sunday_5 : decode cX11_sunday 5 = .ok (.ifCond .ne 5, 3) := by decide +kernel
theorem dX11_sunday_8 : decode cX11_sunday 8 = .ok (.iconst (-1), 1) := by decide +kernel
theorem dX11_sunday_9 : decode cX11_sunday 9 = .ok (.ireturn, 1) := by decide +kernel
theorem dX11_sunday_10 : decode cX11_sunday 10 = .ok (.aload_n 0, 1) := by decide +kernel
theorem dX11_sunday_11 : decode cX11_sunday 11 = .ok (.invokevirtual 326, 3) := by decide +kernel
theorem dX11_sunday_14 : decode cX11_sunday 14 = .ok (.iload_n 2, 1) := by decide +kernel
theorem dX11_sunday_15 : decode cX11_sunday 15 = .ok (.tableswitch 107 0 6 #[41, 55, 69, 79, 89, 95, 101], 41) := by decide +kernel
theorem dX11_sunday_56 : decode cX11_sunday 56 = .ok (.aload_n 0, 1) := by decide +kernel
theorem dX11_sunday_57 : decode cX11_sunday 57 = .ok (.getfield 49, 3) := by decide +kernel
theorem dX11_sunday_60 : decode cX11_sunday 60 = .ok (.iconst 4, 1) := by decide +kernel
theorem dX11_sunday_61 : decode cX11_sunday 61 = .ok (.aload_n 0, 1) := by decide +kernel
theorem dX11_sunday_62 : decode cX11_sunday 62 = .ok (.getfield 236, 3) := by decide +kernel
theorem dX11_sunday_65 : decode cX11_sunday 65 = .ok (.imul, 1) := by decide +kernel
theorem dX11_sunday_66 : decode cX11_sunday 66 = .ok (.iload_n 1, 1) := by decide +kernel
theorem dX11_sunday_67 : decode cX11_sunday 67 = .ok (.iadd, 1) := by decide +kernel
theorem dX11_sunday_68 : decode cX11_sunday 68 = .ok (.iaload, 1) := by decide +kernel
theorem dX11_sunday_69 : decode cX11_sunday 69 = .ok (.ireturn, 1) := by decide +kernel
theorem dX11_sunday_70 : decode cX11_sunday 70 = .ok (.aload_n 0, 1) := by decide +kernel
theorem dX11_sunday_71 : decode cX11_sunday 71 = .ok (.getfield 52, 3) := by decide +kernel
theorem dX11_sunday_74 : decode cX11_sunday 74 = .ok (.iconst 4, 1) := by decide +kernel
theorem dX11_sunday_75 : decode cX11_sunday 75 = .ok (.aload_n 0, 1) := by decide +kernel
theorem dX11_sunday_76 : decode cX11_sunday 76 = .ok (.getfield 236, 3) := by decide +kernel
theorem dX11_sunday_79 : decode cX11_sunday 79 = .ok (.imul, 1) := by decide +kernel
theorem dX11_sunday_80 : decode cX11_sunday 80 = .ok (.iload_n 1, 1) := by decide +kernel
theorem dX11_sunday_81 : decode cX11_sunday 81 = .ok (.iadd, 1) := by decide +kernel
theorem dX11_sunday_82 : decode cX11_sunday 82 = .ok (.iaload, 1) := by decide +kernel
theorem dX11_sunday_83 : decode cX11_sunday 83 = .ok (.ireturn, 1) := by decide +kernel
theorem dX11_sunday_84 : decode cX11_sunday 84 = .ok (.aload_n 0, 1) := by decide +kernel
theorem dX11_sunday_85 : decode cX11_sunday 85 = .ok (.getfield 119, 3) := by decide +kernel
theorem dX11_sunday_88 : decode cX11_sunday 88 = .ok (.bipush 21, 2) := by decide +kernel
theorem dX11_sunday_90 : decode cX11_sunday 90 = .ok (.iload_n 1, 1) := by decide +kernel
theorem dX11_sunday_91 : decode cX11_sunday 91 = .ok (.iadd, 1) := by decide +kernel
theorem dX11_sunday_92 : decode cX11_sunday 92 = .ok (.iaload, 1) := by decide +kernel
theorem dX11_sunday_93 : decode cX11_sunday 93 = .ok (.ireturn, 1) := by decide +kernel
theorem dX11_sunday_94 : decode cX11_sunday 94 = .ok (.aload_n 0, 1) := by decide +kernel
theorem dX11_sunday_95 : decode cX11_sunday 95 = .ok (.getfield 119, 3) := by decide +kernel
theorem dX11_sunday_98 : decode cX11_sunday 98 = .ok (.bipush 25, 2) := by decide +kernel
theorem dX11_sunday_100 : decode cX11_sunday 100 = .ok (.iload_n 1, 1) := by decide +kernel
theorem dX11_sunday_101 : decode cX11_sunday 101 = .ok (.iadd, 1) := by decide +kernel
theorem dX11_sunday_102 : decode cX11_sunday 102 = .ok (.iaload, 1) := by decide +kernel
theorem dX11_sunday_103 : decode cX11_sunday 103 = .ok (.ireturn, 1) := by decide +kernel
theorem dX11_sunday_104 : decode cX11_sunday 104 = .ok (.aload_n 0, 1) := by decide +kernel
theorem dX11_sunday_105 : decode cX11_sunday 105 = .ok (.iload_n 1, 1) := by decide +kernel
theorem dX11_sunday_106 : decode cX11_sunday 106 = .ok (.invokevirtual 362, 3) := by decide +kernel
theorem dX11_sunday_109 : decode cX11_sunday 109 = .ok (.ireturn, 1) := by decide +kernel
theorem dX11_sunday_110 : decode cX11_sunday 110 = .ok (.aload_n 0, 1) := by decide +kernel
theorem dX11_sunday_111 : decode cX11_sunday 111 = .ok (.iload_n 1, 1) := by decide +kernel
theorem dX11_sunday_112 : decode cX11_sunday 112 = .ok (.invokevirtual 392, 3) := by decide +kernel
theorem dX11_sunday_115 : decode cX11_sunday 115 = .ok (.ireturn, 1) := by decide +kernel
theorem dX11_sunday_116 : decode cX11_sunday 116 = .ok (.aload_n 0, 1) := by decide +kernel
theorem dX11_sunday_117 : decode cX11_sunday 117 = .ok (.iload_n 1, 1) := by decide +kernel
theorem dX11_sunday_118 : decode cX11_sunday 118 = .ok (.invokevirtual 407, 3) := by decide +kernel
theorem dX11_sunday_121 : decode cX11_sunday 121 = .ok (.ireturn, 1) := by decide +kernel
theorem dX11_sunday_122 : decode cX11_sunday 122 = .ok (.iconst (-1), 1) := by decide +kernel
theorem dX11_sunday_123 : decode cX11_sunday 123 = .ok (.ireturn, 1) := by decide +kernel
theorem dX11_guest_0 : decode cX11_guest 0 = .ok (.aload_n 0, 1) := by decide +kernel
theorem dX11_guest_1 : decode cX11_guest 1 = .ok (.iload_n 1, 1) := by decide +kernel
theorem dX11_guest_2 : decode cX11_guest 2 = .ok (.invokevirtual 410, 3) := by decide +kernel
theorem dX11_guest_5 : decode cX11_guest 5 = .ok (.ifCond .ne 5, 3) := by decide +kernel
theorem dX11_guest_8 : decode cX11_guest 8 = .ok (.iconst (-1), 1) := by decide +kernel
theorem dX11_guest_9 : decode cX11_guest 9 = .ok (.ireturn, 1) := by decide +kernel
theorem dX11_guest_10 : decode cX11_guest 10 = .ok (.aload_n 0, 1) := by decide +kernel
theorem dX11_guest_11 : decode cX11_guest 11 = .ok (.invokevirtual 326, 3) := by decide +kernel
theorem dX11_guest_14 : decode cX11_guest 14 = .ok (.iload_n 2, 1) := by decide +kernel
theorem dX11_guest_15 : decode cX11_guest 15 = .ok (.tableswitch 120 0 7 #[45, 51, 66, 81, 88, 98, 108, 114], 45) := by decide +kernel
theorem dX11_guest_60 : decode cX11_guest 60 = .ok (.aload_n 0, 1) := by decide +kernel
theorem dX11_guest_61 : decode cX11_guest 61 = .ok (.iload_n 1, 1) := by decide +kernel
theorem dX11_guest_62 : decode cX11_guest 62 = .ok (.invokevirtual 333, 3) := by decide +kernel
theorem dX11_guest_65 : decode cX11_guest 65 = .ok (.ireturn, 1) := by decide +kernel
theorem dX11_guest_66 : decode cX11_guest 66 = .ok (.aload_n 0, 1) := by decide +kernel
theorem dX11_guest_67 : decode cX11_guest 67 = .ok (.getfield 61, 3) := by decide +kernel
theorem dX11_guest_70 : decode cX11_guest 70 = .ok (.bipush 7, 2) := by decide +kernel
theorem dX11_guest_72 : decode cX11_guest 72 = .ok (.aload_n 0, 1) := by decide +kernel
theorem dX11_guest_73 : decode cX11_guest 73 = .ok (.getfield 236, 3) := by decide +kernel
theorem dX11_guest_76 : decode cX11_guest 76 = .ok (.imul, 1) := by decide +kernel
theorem dX11_guest_77 : decode cX11_guest 77 = .ok (.iload_n 1, 1) := by decide +kernel
theorem dX11_guest_78 : decode cX11_guest 78 = .ok (.iadd, 1) := by decide +kernel
theorem dX11_guest_79 : decode cX11_guest 79 = .ok (.iaload, 1) := by decide +kernel
theorem dX11_guest_80 : decode cX11_guest 80 = .ok (.ireturn, 1) := by decide +kernel
theorem dX11_guest_81 : decode cX11_guest 81 = .ok (.aload_n 0, 1) := by decide +kernel
theorem dX11_guest_82 : decode cX11_guest 82 = .ok (.getfield 64, 3) := by decide +kernel
theorem dX11_guest_85 : decode cX11_guest 85 = .ok (.bipush 7, 2) := by decide +kernel
theorem dX11_guest_87 : decode cX11_guest 87 = .ok (.aload_n 0, 1) := by decide +kernel
theorem dX11_guest_88 : decode cX11_guest 88 = .ok (.getfield 236, 3) := by decide +kernel
theorem dX11_guest_91 : decode cX11_guest 91 = .ok (.imul, 1) := by decide +kernel
theorem dX11_guest_92 : decode cX11_guest 92 = .ok (.iload_n 1, 1) := by decide +kernel
theorem dX11_guest_93 : decode cX11_guest 93 = .ok (.iadd, 1) := by decide +kernel
theorem dX11_guest_94 : decode cX11_guest 94 = .ok (.iaload, 1) := by decide +kernel
theorem dX11_guest_95 : decode cX11_guest 95 = .ok (.ireturn, 1) := by decide +kernel
theorem dX11_guest_96 : decode cX11_guest 96 = .ok (.aload_n 0, 1) := by decide +kernel
theorem dX11_guest_97 : decode cX11_guest 97 = .ok (.getfield 119, 3) := by decide +kernel
theorem dX11_guest_100 : decode cX11_guest 100 = .ok (.iload_n 1, 1) := by decide +kernel
theorem dX11_guest_101 : decode cX11_guest 101 = .ok (.iaload, 1) := by decide +kernel
theorem dX11_guest_102 : decode cX11_guest 102 = .ok (.ireturn, 1) := by decide +kernel
theorem dX11_guest_103 : decode cX11_guest 103 = .ok (.aload_n 0, 1) := by decide +kernel
theorem dX11_guest_104 : decode cX11_guest 104 = .ok (.getfield 119, 3) := by decide +kernel
theorem dX11_guest_107 : decode cX11_guest 107 = .ok (.bipush 7, 2) := by decide +kernel
theorem dX11_guest_109 : decode cX11_guest 109 = .ok (.iload_n 1, 1) := by decide +kernel
theorem dX11_guest_110 : decode cX11_guest 110 = .ok (.iadd, 1) := by decide +kernel
theorem dX11_guest_111 : decode cX11_guest 111 = .ok (.iaload, 1) := by decide +kernel
theorem dX11_guest_112 : decode cX11_guest 112 = .ok (.ireturn, 1) := by decide +kernel
theorem dX11_guest_113 : decode cX11_guest 113 = .ok (.aload_n 0, 1) := by decide +kernel
theorem dX11_guest_114 : decode cX11_guest 114 = .ok (.getfield 119, 3) := by decide +kernel
theorem dX11_guest_117 : decode cX11_guest 117 = .ok (.bipush 14, 2) := by decide +kernel
theorem dX11_guest_119 : decode cX11_guest 119 = .ok (.iload_n 1, 1) := by decide +kernel
theorem dX11_guest_120 : decode cX11_guest 120 = .ok (.iadd, 1) := by decide +kernel
theorem dX11_guest_121 : decode cX11_guest 121 = .ok (.iaload, 1) := by decide +kernel
theorem dX11_guest_122 : decode cX11_guest 122 = .ok (.ireturn, 1) := by decide +kernel
theorem dX11_guest_123 : decode cX11_guest 123 = .ok (.aload_n 0, 1) := by decide +kernel
theorem dX11_guest_124 : decode cX11_guest 124 = .ok (.iload_n 1, 1) := by decide +kernel
theorem dX11_guest_125 : decode cX11_guest 125 = .ok (.invokevirtual 380, 3) := by decide +kernel
theorem dX11_guest_128 : decode cX11_guest 128 = .ok (.ireturn, 1) := by decide +kernel
theorem dX11_guest_129 : decode cX11_guest 129 = .ok (.aload_n 0, 1) := by decide +kernel
theorem dX11_guest_130 : decode cX11_guest 130 = .ok (.iload_n 1, 1) := by decide +kernel
theorem dX11_guest_131 : decode cX11_guest 131 = .ok (.invokevirtual 389, 3) := by decide +kernel
theorem dX11_guest_134 : decode cX11_guest 134 = .ok (.ireturn, 1) := by decide +kernel
theorem dX11_guest_135 : decode cX11_guest 135 = .ok (.iconst (-1), 1) := by decide +kernel
theorem dX11_guest_136 : decode cX11_guest 136 = .ok (.ireturn, 1) := by decide +kernel
theorem dX11_at_0 : decode cX11_at 0 = .ok (.aload_n 0, 1) := by decide +kernel
theorem dX11_at_1 : decode cX11_at 1 = .ok (.iload_n 1, 1) := by decide +kernel
theorem dX11_at_2 : decode cX11_at 2 = .ok (.invokevirtual 404, 3) := by decide +kernel
theorem dX11_at_5 : decode cX11_at 5 = .ok (.ifCond .eq 26, 3) := by decide +kernel
theorem dX11_at_8 : decode cX11_at 8 = .ok (.iload_n 2, 1) := by decide +kernel
theorem dX11_at_9 : decode cX11_at 9 = .ok (.iconst 0, 1) := by decide +kernel
theorem dX11_at_10 : decode cX11_at 10 = .ok (.aload_n 0, 1) := by decide +kernel
theorem dX11_at_11 : decode cX11_at 11 = .ok (.getfield 49, 3) := by decide +kernel
theorem dX11_at_14 : decode cX11_at 14 = .ok (.iconst 4, 1) := by decide +kernel
theorem dX11_at_15 : decode cX11_at 15 = .ok (.aload_n 0, 1) := by decide +kernel
theorem dX11_at_16 : decode cX11_at 16 = .ok (.getfield 236, 3) := by decide +kernel
theorem dX11_at_19 : decode cX11_at 19 = .ok (.imul, 1) := by decide +kernel
theorem dX11_at_20 : decode cX11_at 20 = .ok (.iload_n 1, 1) := by decide +kernel
theorem dX11_at_21 : decode cX11_at 21 = .ok (.iadd, 1) := by decide +kernel
theorem dX11_at_22 : decode cX11_at 22 = .ok (.iaload, 1) := by decide +kernel
theorem dX11_at_23 : decode cX11_at 23 = .ok (.iconst 1, 1) := by decide +kernel
theorem dX11_at_24 : decode cX11_at 24 = .ok (.isub, 1) := by decide +kernel
theorem dX11_at_25 : decode cX11_at 25 = .ok (.invokestatic 316, 3) := by decide +kernel
theorem dX11_at_28 : decode cX11_at 28 = .ok (.ifCond .ne 5, 3) := by decide +kernel
theorem dX11_at_31 : decode cX11_at 31 = .ok (.iconst (-1), 1) := by decide +kernel
theorem dX11_at_32 : decode cX11_at 32 = .ok (.ireturn, 1) := by decide +kernel
theorem dX11_at_33 : decode cX11_at 33 = .ok (.aload_n 0, 1) := by decide +kernel
theorem dX11_at_34 : decode cX11_at 34 = .ok (.invokevirtual 326, 3) := by decide +kernel
theorem dX11_at_37 : decode cX11_at 37 = .ok (.aload_n 0, 1) := by decide +kernel
theorem dX11_at_38 : decode cX11_at 38 = .ok (.iload_n 1, 1) := by decide +kernel
theorem dX11_at_39 : decode cX11_at 39 = .ok (.iload_n 2, 1) := by decide +kernel
theorem dX11_at_40 : decode cX11_at 40 = .ok (.invokevirtual 413, 3) := by decide +kernel
theorem dX11_at_43 : decode cX11_at 43 = .ok (.ireturn, 1) := by decide +kernel
theorem dX11_records_0 : decode cX11_records 0 = .ok (.aload_n 0, 1) := by decide +kernel
theorem dX11_records_1 : decode cX11_records 1 = .ok (.getfield 254, 3) := by decide +kernel
theorem dX11_records_4 : decode cX11_records 4 = .ok (.bipush 40, 2) := by decide +kernel
theorem dX11_records_6 : decode cX11_records 6 = .ok (.if_icmp .ne 43, 3) := by decide +kernel
theorem dX11_records_9 : decode cX11_records 9 = .ok (.iconst 0, 1) := by decide +kernel
theorem dX11_records_10 : decode cX11_records 10 = .ok (.istore_n 1, 1) := by decide +kernel
theorem dX11_records_11 : decode cX11_records 11 = .ok (.iload_n 1, 1) := by decide +kernel
theorem dX11_records_12 : decode cX11_records 12 = .ok (.sipush 1209, 3) := by decide +kernel
theorem dX11_records_15 : decode cX11_records 15 = .ok (.if_icmp .ge 24, 3) := by decide +kernel
theorem dX11_records_18 : decode cX11_records 18 = .ok (.aload_n 0, 1) := by decide +kernel
theorem dX11_records_19 : decode cX11_records 19 = .ok (.getfield 128, 3) := by decide +kernel
theorem dX11_records_22 : decode cX11_records 22 = .ok (.iload_n 1, 1) := by decide +kernel
theorem dX11_records_23 : decode cX11_records 23 = .ok (.aload_n 0, 1) := by decide +kernel
theorem dX11_records_24 : decode cX11_records 24 = .ok (.getfield 128, 3) := by decide +kernel
theorem dX11_records_27 : decode cX11_records 27 = .ok (.iload_n 1, 1) := by decide +kernel
theorem dX11_records_28 : decode cX11_records 28 = .ok (.bipush 31, 2) := by decide +kernel
theorem dX11_records_30 : decode cX11_records 30 = .ok (.iadd, 1) := by decide +kernel
theorem dX11_records_31 : decode cX11_records 31 = .ok (.iaload, 1) := by decide +kernel
theorem dX11_records_32 : decode cX11_records 32 = .ok (.iastore, 1) := by decide +kernel
theorem dX11_records_33 : decode cX11_records 33 = .ok (.iinc 1 1, 3) := by decide +kernel
theorem dX11_records_36 : decode cX11_records 36 = .ok (.goto (-25), 3) := by decide +kernel
theorem dX11_records_39 : decode cX11_records 39 = .ok (.aload_n 0, 1) := by decide +kernel
theorem dX11_records_40 : decode cX11_records 40 = .ok (.dup, 1) := by decide +kernel
theorem dX11_records_41 : decode cX11_records 41 = .ok (.getfield 254, 3) := by decide +kernel
theorem dX11_records_44 : decode cX11_records 44 = .ok (.iconst 1, 1) := by decide +kernel
theorem dX11_records_45 : decode cX11_records 45 = .ok (.isub, 1) := by decide +kernel
theorem dX11_records_46 : decode cX11_records 46 = .ok (.putfield 254, 3) := by decide +kernel
theorem dX11_records_49 : decode cX11_records 49 = .ok (.iconst 0, 1) := by decide +kernel
theorem dX11_records_50 : decode cX11_records 50 = .ok (.istore_n 1, 1) := by decide +kernel
theorem dX11_records_51 : decode cX11_records 51 = .ok (.iload_n 1, 1) := by decide +kernel
theorem dX11_records_52 : decode cX11_records 52 = .ok (.bipush 31, 2) := by decide +kernel
theorem dX11_records_54 : decode cX11_records 54 = .ok (.if_icmp .ge 29, 3) := by decide +kernel
theorem dX11_records_57 : decode cX11_records 57 = .ok (.aload_n 0, 1) := by decide +kernel
theorem dX11_records_58 : decode cX11_records 58 = .ok (.getfield 128, 3) := by decide +kernel
theorem dX11_records_61 : decode cX11_records 61 = .ok (.bipush 31, 2) := by decide +kernel
theorem dX11_records_63 : decode cX11_records 63 = .ok (.aload_n 0, 1) := by decide +kernel
theorem dX11_records_64 : decode cX11_records 64 = .ok (.getfield 254, 3) := by decide +kernel
theorem dX11_records_67 : decode cX11_records 67 = .ok (.imul, 1) := by decide +kernel
theorem dX11_records_68 : decode cX11_records 68 = .ok (.iload_n 1, 1) := by decide +kernel
theorem dX11_records_69 : decode cX11_records 69 = .ok (.iadd, 1) := by decide +kernel
theorem dX11_records_70 : decode cX11_records 70 = .ok (.aload_n 0, 1) := by decide +kernel
theorem dX11_records_71 : decode cX11_records 71 = .ok (.getfield 116, 3) := by decide +kernel
theorem dX11_records_74 : decode cX11_records 74 = .ok (.iload_n 1, 1) := by decide +kernel
theorem dX11_records_75 : decode cX11_records 75 = .ok (.iaload, 1) := by decide +kernel
theorem dX11_records_76 : decode cX11_records 76 = .ok (.iastore, 1) := by decide +kernel
theorem dX11_records_77 : decode cX11_records 77 = .ok (.iinc 1 1, 3) := by decide +kernel
theorem dX11_records_80 : decode cX11_records 80 = .ok (.goto (-29), 3) := by decide +kernel
theorem dX11_records_83 : decode cX11_records 83 = .ok (.aload_n 0, 1) := by decide +kernel
theorem dX11_records_84 : decode cX11_records 84 = .ok (.dup, 1) := by decide +kernel
theorem dX11_records_85 : decode cX11_records 85 = .ok (.getfield 254, 3) := by decide +kernel
theorem dX11_records_88 : decode cX11_records 88 = .ok (.iconst 1, 1) := by decide +kernel
theorem dX11_records_89 : decode cX11_records 89 = .ok (.iadd, 1) := by decide +kernel
theorem dX11_records_90 : decode cX11_records 90 = .ok (.putfield 254, 3) := by decide +kernel
theorem dX11_records_93 : decode cX11_records 93 = .ok (.aload_n 0, 1) := by decide +kernel
theorem dX11_records_94 : decode cX11_records 94 = .ok (.invokevirtual 166, 3) := by decide +kernel
theorem dX11_records_97 : decode cX11_records 97 = .ok (.return_, 1) := by decide +kernel
theorem dX11_mayGoIn_0 : decode cX11_mayGoIn 0 = .ok (.aload_n 0, 1) := by decide +kernel
theorem dX11_mayGoIn_1 : decode cX11_mayGoIn 1 = .ok (.getfield 119, 3) := by decide +kernel
theorem dX11_mayGoIn_4 : decode cX11_mayGoIn 4 = .ok (.bipush 14, 2) := by decide +kernel
theorem dX11_mayGoIn_6 : decode cX11_mayGoIn 6 = .ok (.iload_n 1, 1) := by decide +kernel
theorem dX11_mayGoIn_7 : decode cX11_mayGoIn 7 = .ok (.iadd, 1) := by decide +kernel
theorem dX11_mayGoIn_8 : decode cX11_mayGoIn 8 = .ok (.iaload, 1) := by decide +kernel
theorem dX11_mayGoIn_9 : decode cX11_mayGoIn 9 = .ok (.ifCond .ne 30, 3) := by decide +kernel
theorem dX11_mayGoIn_12 : decode cX11_mayGoIn 12 = .ok (.aload_n 0, 1) := by decide +kernel
theorem dX11_mayGoIn_13 : decode cX11_mayGoIn 13 = .ok (.iload_n 1, 1) := by decide +kernel
theorem dX11_mayGoIn_14 : decode cX11_mayGoIn 14 = .ok (.iload_n 2, 1) := by decide +kernel
theorem dX11_mayGoIn_15 : decode cX11_mayGoIn 15 = .ok (.invokevirtual 416, 3) := by decide +kernel
theorem dX11_mayGoIn_18 : decode cX11_mayGoIn 18 = .ok (.ifCond .eq 21, 3) := by decide +kernel
theorem dX11_mayGoIn_21 : decode cX11_mayGoIn 21 = .ok (.aload_n 0, 1) := by decide +kernel
theorem dX11_mayGoIn_22 : decode cX11_mayGoIn 22 = .ok (.iload_n 2, 1) := by decide +kernel
theorem dX11_mayGoIn_23 : decode cX11_mayGoIn 23 = .ok (.invokevirtual 362, 3) := by decide +kernel
theorem dX11_mayGoIn_26 : decode cX11_mayGoIn 26 = .ok (.aload_n 0, 1) := by decide +kernel
theorem dX11_mayGoIn_27 : decode cX11_mayGoIn 27 = .ok (.iload_n 1, 1) := by decide +kernel
theorem dX11_mayGoIn_28 : decode cX11_mayGoIn 28 = .ok (.invokevirtual 419, 3) := by decide +kernel
theorem dX11_mayGoIn_31 : decode cX11_mayGoIn 31 = .ok (.iand, 1) := by decide +kernel
theorem dX11_mayGoIn_32 : decode cX11_mayGoIn 32 = .ok (.ifCond .ne 7, 3) := by decide +kernel
theorem dX11_mayGoIn_35 : decode cX11_mayGoIn 35 = .ok (.iconst 1, 1) := by decide +kernel
theorem dX11_mayGoIn_36 : decode cX11_mayGoIn 36 = .ok (.goto 4, 3) := by decide +kernel
theorem dX11_mayGoIn_39 : decode cX11_mayGoIn 39 = .ok (.iconst 0, 1) := by decide +kernel
theorem dX11_mayGoIn_40 : decode cX11_mayGoIn 40 = .ok (.ireturn, 1) := by decide +kernel
theorem dX11_letIn_0 : decode cX11_letIn 0 = .ok (.aload_n 0, 1) := by decide +kernel
theorem dX11_letIn_1 : decode cX11_letIn 1 = .ok (.iload_n 1, 1) := by decide +kernel
theorem dX11_letIn_2 : decode cX11_letIn 2 = .ok (.invokevirtual 410, 3) := by decide +kernel
theorem dX11_letIn_5 : decode cX11_letIn 5 = .ok (.ifCond .eq 11, 3) := by decide +kernel
theorem dX11_letIn_8 : decode cX11_letIn 8 = .ok (.aload_n 0, 1) := by decide +kernel
theorem dX11_letIn_9 : decode cX11_letIn 9 = .ok (.iload_n 2, 1) := by decide +kernel
theorem dX11_letIn_10 : decode cX11_letIn 10 = .ok (.invokevirtual 404, 3) := by decide +kernel
theorem dX11_letIn_13 : decode cX11_letIn 13 = .ok (.ifCond .ne 5, 3) := by decide +kernel
theorem dX11_letIn_16 : decode cX11_letIn 16 = .ok (.iconst 0, 1) := by decide +kernel
theorem dX11_letIn_17 : decode cX11_letIn 17 = .ok (.ireturn, 1) := by decide +kernel
theorem dX11_letIn_18 : decode cX11_letIn 18 = .ok (.aload_n 0, 1) := by decide +kernel
theorem dX11_letIn_19 : decode cX11_letIn 19 = .ok (.invokevirtual 326, 3) := by decide +kernel
theorem dX11_letIn_22 : decode cX11_letIn 22 = .ok (.aload_n 0, 1) := by decide +kernel
theorem dX11_letIn_23 : decode cX11_letIn 23 = .ok (.getfield 119, 3) := by decide +kernel
theorem dX11_letIn_26 : decode cX11_letIn 26 = .ok (.iload_n 1, 1) := by decide +kernel
theorem dX11_letIn_27 : decode cX11_letIn 27 = .ok (.iaload, 1) := by decide +kernel
theorem dX11_letIn_28 : decode cX11_letIn 28 = .ok (.ifCond .ge 12, 3) := by decide +kernel
theorem dX11_letIn_31 : decode cX11_letIn 31 = .ok (.aload_n 0, 1) := by decide +kernel
theorem dX11_letIn_32 : decode cX11_letIn 32 = .ok (.iload_n 1, 1) := by decide +kernel
theorem dX11_letIn_33 : decode cX11_letIn 33 = .ok (.iload_n 2, 1) := by decide +kernel
theorem dX11_letIn_34 : decode cX11_letIn 34 = .ok (.invokevirtual 422, 3) := by decide +kernel
theorem dX11_letIn_37 : decode cX11_letIn 37 = .ok (.ifCond .ne 5, 3) := by decide +kernel
theorem dX11_letIn_40 : decode cX11_letIn 40 = .ok (.iconst 0, 1) := by decide +kernel
theorem dX11_letIn_41 : decode cX11_letIn 41 = .ok (.ireturn, 1) := by decide +kernel
theorem dX11_letIn_42 : decode cX11_letIn 42 = .ok (.aload_n 0, 1) := by decide +kernel
theorem dX11_letIn_43 : decode cX11_letIn 43 = .ok (.getfield 119, 3) := by decide +kernel
theorem dX11_letIn_46 : decode cX11_letIn 46 = .ok (.iload_n 1, 1) := by decide +kernel
theorem dX11_letIn_47 : decode cX11_letIn 47 = .ok (.iload_n 2, 1) := by decide +kernel
theorem dX11_letIn_48 : decode cX11_letIn 48 = .ok (.iastore, 1) := by decide +kernel
theorem dX11_letIn_49 : decode cX11_letIn 49 = .ok (.aload_n 0, 1) := by decide +kernel
theorem dX11_letIn_50 : decode cX11_letIn 50 = .ok (.invokevirtual 425, 3) := by decide +kernel
theorem dX11_letIn_53 : decode cX11_letIn 53 = .ok (.iconst 1, 1) := by decide +kernel
theorem dX11_letIn_54 : decode cX11_letIn 54 = .ok (.ireturn, 1) := by decide +kernel
theorem dX11_putOut_0 : decode cX11_putOut 0 = .ok (.aload_n 0, 1) := by decide +kernel
theorem dX11_putOut_1 : decode cX11_putOut 1 = .ok (.iload_n 1, 1) := by decide +kernel
theorem dX11_putOut_2 : decode cX11_putOut 2 = .ok (.invokevirtual 410, 3) := by decide +kernel
theorem dX11_putOut_5 : decode cX11_putOut 5 = .ok (.ifCond .eq 12, 3) := by decide +kernel
theorem dX11_putOut_8 : decode cX11_putOut 8 = .ok (.aload_n 0, 1) := by decide +kernel
theorem dX11_putOut_9 : decode cX11_putOut 9 = .ok (.getfield 116, 3) := by decide +kernel
theorem dX11_putOut_12 : decode cX11_putOut 12 = .ok (.iload_n 1, 1) := by decide +kernel
theorem dX11_putOut_13 : decode cX11_putOut 13 = .ok (.iaload, 1) := by decide +kernel
theorem dX11_putOut_14 : decode cX11_putOut 14 = .ok (.ifCond .ge 5, 3) := by decide +kernel
theorem dX11_putOut_17 : decode cX11_putOut 17 = .ok (.iconst 0, 1) := by decide +kernel
theorem dX11_putOut_18 : decode cX11_putOut 18 = .ok (.ireturn, 1) := by decide +kernel
theorem dX11_putOut_19 : decode cX11_putOut 19 = .ok (.aload_n 0, 1) := by decide +kernel
theorem dX11_putOut_20 : decode cX11_putOut 20 = .ok (.invokevirtual 326, 3) := by decide +kernel
theorem dX11_putOut_23 : decode cX11_putOut 23 = .ok (.aload_n 0, 1) := by decide +kernel
theorem dX11_putOut_24 : decode cX11_putOut 24 = .ok (.getfield 119, 3) := by decide +kernel
theorem dX11_putOut_27 : decode cX11_putOut 27 = .ok (.iload_n 1, 1) := by decide +kernel
theorem dX11_putOut_28 : decode cX11_putOut 28 = .ok (.bipush (-2), 2) := by decide +kernel
theorem dX11_putOut_30 : decode cX11_putOut 30 = .ok (.iastore, 1) := by decide +kernel
theorem dX11_putOut_31 : decode cX11_putOut 31 = .ok (.aload_n 0, 1) := by decide +kernel
theorem dX11_putOut_32 : decode cX11_putOut 32 = .ok (.invokevirtual 425, 3) := by decide +kernel
theorem dX11_putOut_35 : decode cX11_putOut 35 = .ok (.iconst 1, 1) := by decide +kernel
theorem dX11_putOut_36 : decode cX11_putOut 36 = .ok (.ireturn, 1) := by decide +kernel
theorem dX11_sell_0 : decode cX11_sell 0 = .ok (.aload_n 0, 1) := by decide +kernel
theorem dX11_sell_1 : decode cX11_sell 1 = .ok (.iload_n 1, 1) := by decide +kernel
theorem dX11_sell_2 : decode cX11_sell 2 = .ok (.invokevirtual 404, 3) := by decide +kernel
theorem dX11_sell_5 : decode cX11_sell 5 = .ok (.ifCond .ne 5, 3) := by decide +kernel
theorem dX11_sell_8 : decode cX11_sell 8 = .ok (.iconst (-1), 1) := by decide +kernel
theorem dX11_sell_9 : decode cX11_sell 9 = .ok (.ireturn, 1) := by decide +kernel
theorem dX11_sell_10 : decode cX11_sell 10 = .ok (.aload_n 0, 1) := by decide +kernel
theorem dX11_sell_11 : decode cX11_sell 11 = .ok (.invokevirtual 326, 3) := by decide +kernel
theorem dX11_sell_14 : decode cX11_sell 14 = .ok (.aload_n 0, 1) := by decide +kernel
theorem dX11_sell_15 : decode cX11_sell 15 = .ok (.getfield 119, 3) := by decide +kernel
theorem dX11_sell_18 : decode cX11_sell 18 = .ok (.bipush 25, 2) := by decide +kernel
theorem dX11_sell_20 : decode cX11_sell 20 = .ok (.iload_n 1, 1) := by decide +kernel
theorem dX11_sell_21 : decode cX11_sell 21 = .ok (.iadd, 1) := by decide +kernel
theorem dX11_sell_22 : decode cX11_sell 22 = .ok (.iaload, 1) := by decide +kernel
theorem dX11_sell_23 : decode cX11_sell 23 = .ok (.iconst 1, 1) := by decide +kernel
theorem dX11_sell_24 : decode cX11_sell 24 = .ok (.if_icmp .eq 11, 3) := by decide +kernel
theorem dX11_sell_27 : decode cX11_sell 27 = .ok (.aload_n 0, 1) := by decide +kernel
theorem dX11_sell_28 : decode cX11_sell 28 = .ok (.iload_n 1, 1) := by decide +kernel
theorem dX11_sell_29 : decode cX11_sell 29 = .ok (.invokevirtual 362, 3) := by decide +kernel
theorem dX11_sell_32 : decode cX11_sell 32 = .ok (.ifCond .eq 5, 3) := by decide +kernel
theorem dX11_sell_35 : decode cX11_sell 35 = .ok (.iconst (-1), 1) := by decide +kernel
theorem dX11_sell_36 : decode cX11_sell 36 = .ok (.ireturn, 1) := by decide +kernel
theorem dX11_sell_37 : decode cX11_sell 37 = .ok (.aload_n 0, 1) := by decide +kernel
theorem dX11_sell_38 : decode cX11_sell 38 = .ok (.iload_n 1, 1) := by decide +kernel
theorem dX11_sell_39 : decode cX11_sell 39 = .ok (.invokevirtual 407, 3) := by decide +kernel
theorem dX11_sell_42 : decode cX11_sell 42 = .ok (.istore_n 2, 1) := by decide +kernel
theorem dX11_sell_43 : decode cX11_sell 43 = .ok (.aload_n 0, 1) := by decide +kernel
theorem dX11_sell_44 : decode cX11_sell 44 = .ok (.getfield 119, 3) := by decide +kernel
theorem dX11_sell_47 : decode cX11_sell 47 = .ok (.bipush 25, 2) := by decide +kernel
theorem dX11_sell_49 : decode cX11_sell 49 = .ok (.iload_n 1, 1) := by decide +kernel
theorem dX11_sell_50 : decode cX11_sell 50 = .ok (.iadd, 1) := by decide +kernel
theorem dX11_sell_51 : decode cX11_sell 51 = .ok (.iconst 1, 1) := by decide +kernel
theorem dX11_sell_52 : decode cX11_sell 52 = .ok (.iastore, 1) := by decide +kernel
theorem dX11_sell_53 : decode cX11_sell 53 = .ok (.aload_n 0, 1) := by decide +kernel
theorem dX11_sell_54 : decode cX11_sell 54 = .ok (.getfield 119, 3) := by decide +kernel
theorem dX11_sell_57 : decode cX11_sell 57 = .ok (.bipush 30, 2) := by decide +kernel
theorem dX11_sell_59 : decode cX11_sell 59 = .ok (.dup2, 1) := by decide +kernel
theorem dX11_sell_60 : decode cX11_sell 60 = .ok (.iaload, 1) := by decide +kernel
theorem dX11_sell_61 : decode cX11_sell 61 = .ok (.iload_n 2, 1) := by decide +kernel
theorem dX11_sell_62 : decode cX11_sell 62 = .ok (.iadd, 1) := by decide +kernel
theorem dX11_sell_63 : decode cX11_sell 63 = .ok (.iastore, 1) := by decide +kernel
theorem dX11_sell_64 : decode cX11_sell 64 = .ok (.aload_n 0, 1) := by decide +kernel
theorem dX11_sell_65 : decode cX11_sell 65 = .ok (.invokevirtual 425, 3) := by decide +kernel
theorem dX11_sell_68 : decode cX11_sell 68 = .ok (.iload_n 2, 1) := by decide +kernel
theorem dX11_sell_69 : decode cX11_sell 69 = .ok (.ireturn, 1) := by decide +kernel
theorem dX11_air_0 : decode cX11_air 0 = .ok (.aload_n 0, 1) := by decide +kernel
theorem dX11_air_1 : decode cX11_air 1 = .ok (.iload_n 1, 1) := by decide +kernel
theorem dX11_air_2 : decode cX11_air 2 = .ok (.invokevirtual 404, 3) := by decide +kernel
theorem dX11_air_5 : decode cX11_air 5 = .ok (.ifCond .ne 5, 3) := by decide +kernel
theorem dX11_air_8 : decode cX11_air 8 = .ok (.iconst 0, 1) := by decide +kernel
theorem dX11_air_9 : decode cX11_air 9 = .ok (.ireturn, 1) := by decide +kernel
theorem dX11_air_10 : decode cX11_air 10 = .ok (.aload_n 0, 1) := by decide +kernel
theorem dX11_air_11 : decode cX11_air 11 = .ok (.invokevirtual 326, 3) := by decide +kernel
theorem dX11_air_14 : decode cX11_air 14 = .ok (.aload_n 0, 1) := by decide +kernel
theorem dX11_air_15 : decode cX11_air 15 = .ok (.getfield 119, 3) := by decide +kernel
theorem dX11_air_18 : decode cX11_air 18 = .ok (.bipush 25, 2) := by decide +kernel
theorem dX11_air_20 : decode cX11_air 20 = .ok (.iload_n 1, 1) := by decide +kernel
theorem dX11_air_21 : decode cX11_air 21 = .ok (.iadd, 1) := by decide +kernel
theorem dX11_air_22 : decode cX11_air 22 = .ok (.iaload, 1) := by decide +kernel
theorem dX11_air_23 : decode cX11_air 23 = .ok (.iconst 1, 1) := by decide +kernel
theorem dX11_air_24 : decode cX11_air 24 = .ok (.if_icmp .eq 23, 3) := by decide +kernel
theorem dX11_air_27 : decode cX11_air 27 = .ok (.aload_n 0, 1) := by decide +kernel
theorem dX11_air_28 : decode cX11_air 28 = .ok (.getfield 119, 3) := by decide +kernel
theorem dX11_air_31 : decode cX11_air 31 = .ok (.bipush 21, 2) := by decide +kernel
theorem dX11_air_33 : decode cX11_air 33 = .ok (.iload_n 1, 1) := by decide +kernel
theorem dX11_air_34 : decode cX11_air 34 = .ok (.iadd, 1) := by decide +kernel
theorem dX11_air_35 : decode cX11_air 35 = .ok (.iaload, 1) := by decide +kernel
theorem dX11_air_36 : decode cX11_air 36 = .ok (.ifCond .eq 11, 3) := by decide +kernel
theorem dX11_air_39 : decode cX11_air 39 = .ok (.aload_n 0, 1) := by decide +kernel
theorem dX11_air_40 : decode cX11_air 40 = .ok (.iload_n 1, 1) := by decide +kernel
theorem dX11_air_41 : decode cX11_air 41 = .ok (.invokevirtual 362, 3) := by decide +kernel
theorem dX11_air_44 : decode cX11_air 44 = .ok (.ifCond .eq 5, 3) := by decide +kernel
theorem dX11_air_47 : decode cX11_air 47 = .ok (.iconst 0, 1) := by decide +kernel
theorem dX11_air_48 : decode cX11_air 48 = .ok (.ireturn, 1) := by decide +kernel
theorem dX11_air_49 : decode cX11_air 49 = .ok (.aload_n 0, 1) := by decide +kernel
theorem dX11_air_50 : decode cX11_air 50 = .ok (.getfield 119, 3) := by decide +kernel
theorem dX11_air_53 : decode cX11_air 53 = .ok (.bipush 21, 2) := by decide +kernel
theorem dX11_air_55 : decode cX11_air 55 = .ok (.iload_n 1, 1) := by decide +kernel
theorem dX11_air_56 : decode cX11_air 56 = .ok (.iadd, 1) := by decide +kernel
theorem dX11_air_57 : decode cX11_air 57 = .ok (.iconst 0, 1) := by decide +kernel
theorem dX11_air_58 : decode cX11_air 58 = .ok (.iastore, 1) := by decide +kernel
theorem dX11_air_59 : decode cX11_air 59 = .ok (.aload_n 0, 1) := by decide +kernel
theorem dX11_air_60 : decode cX11_air 60 = .ok (.getfield 119, 3) := by decide +kernel
theorem dX11_air_63 : decode cX11_air 63 = .ok (.bipush 30, 2) := by decide +kernel
theorem dX11_air_65 : decode cX11_air 65 = .ok (.iaload, 1) := by decide +kernel
theorem dX11_air_66 : decode cX11_air 66 = .ok (.ifCond .le 14, 3) := by decide +kernel
theorem dX11_air_69 : decode cX11_air 69 = .ok (.aload_n 0, 1) := by decide +kernel
theorem dX11_air_70 : decode cX11_air 70 = .ok (.getfield 119, 3) := by decide +kernel
theorem dX11_air_73 : decode cX11_air 73 = .ok (.bipush 30, 2) := by decide +kernel
theorem dX11_air_75 : decode cX11_air 75 = .ok (.dup2, 1) := by decide +kernel
theorem dX11_air_76 : decode cX11_air 76 = .ok (.iaload, 1) := by decide +kernel
theorem dX11_air_77 : decode cX11_air 77 = .ok (.iconst 1, 1) := by decide +kernel
theorem dX11_air_78 : decode cX11_air 78 = .ok (.isub, 1) := by decide +kernel
theorem dX11_air_79 : decode cX11_air 79 = .ok (.iastore, 1) := by decide +kernel
theorem dX11_air_80 : decode cX11_air 80 = .ok (.aload_n 0, 1) := by decide +kernel
theorem dX11_air_81 : decode cX11_air 81 = .ok (.invokevirtual 425, 3) := by decide +kernel
theorem dX11_air_84 : decode cX11_air 84 = .ok (.iconst 1, 1) := by decide +kernel
theorem dX11_air_85 : decode cX11_air 85 = .ok (.ireturn, 1) := by decide +kernel
theorem dX11_isLong_0 : decode cX11_isLong 0 = .ok (.iload_n 0, 1) := by decide +kernel
theorem dX11_isLong_1 : decode cX11_isLong 1 = .ok (.iconst 0, 1) := by decide +kernel
theorem dX11_isLong_2 : decode cX11_isLong 2 = .ok (.bipush 40, 2) := by decide +kernel
theorem dX11_isLong_4 : decode cX11_isLong 4 = .ok (.invokestatic 316, 3) := by decide +kernel
theorem dX11_isLong_7 : decode cX11_isLong 7 = .ok (.ireturn, 1) := by decide +kernel
theorem dX11_weeks_0 : decode cX11_weeks 0 = .ok (.iload_n 1, 1) := by decide +kernel
theorem dX11_weeks_1 : decode cX11_weeks 1 = .ok (.invokestatic 428, 3) := by decide +kernel
theorem dX11_weeks_4 : decode cX11_weeks 4 = .ok (.ifCond .ne 5, 3) := by decide +kernel
theorem dX11_weeks_7 : decode cX11_weeks 7 = .ok (.iconst (-1), 1) := by decide +kernel
theorem dX11_weeks_8 : decode cX11_weeks 8 = .ok (.ireturn, 1) := by decide +kernel
theorem dX11_weeks_9 : decode cX11_weeks 9 = .ok (.iload_n 1, 1) := by decide +kernel
theorem dX11_weeks_10 : decode cX11_weeks 10 = .ok (.ifCond .ne 11, 3) := by decide +kernel
theorem dX11_weeks_13 : decode cX11_weeks 13 = .ok (.aload_n 0, 1) := by decide +kernel
theorem dX11_weeks_14 : decode cX11_weeks 14 = .ok (.getfield 116, 3) := by decide +kernel
theorem dX11_weeks_17 : decode cX11_weeks 17 = .ok (.bipush 29, 2) := by decide +kernel
theorem dX11_weeks_19 : decode cX11_weeks 19 = .ok (.iaload, 1) := by decide +kernel
theorem dX11_weeks_20 : decode cX11_weeks 20 = .ok (.ireturn, 1) := by decide +kernel
theorem dX11_weeks_21 : decode cX11_weeks 21 = .ok (.aload_n 0, 1) := by decide +kernel
theorem dX11_weeks_22 : decode cX11_weeks 22 = .ok (.invokevirtual 326, 3) := by decide +kernel
theorem dX11_weeks_25 : decode cX11_weeks 25 = .ok (.aload_n 0, 1) := by decide +kernel
theorem dX11_weeks_26 : decode cX11_weeks 26 = .ok (.iload_n 1, 1) := by decide +kernel
theorem dX11_weeks_27 : decode cX11_weeks 27 = .ok (.invokevirtual 431, 3) := by decide +kernel
theorem dX11_weeks_30 : decode cX11_weeks 30 = .ok (.aload_n 0, 1) := by decide +kernel
theorem dX11_weeks_31 : decode cX11_weeks 31 = .ok (.invokevirtual 425, 3) := by decide +kernel
theorem dX11_weeks_34 : decode cX11_weeks 34 = .ok (.aload_n 0, 1) := by decide +kernel
theorem dX11_weeks_35 : decode cX11_weeks 35 = .ok (.getfield 116, 3) := by decide +kernel
theorem dX11_weeks_38 : decode cX11_weeks 38 = .ok (.bipush 29, 2) := by decide +kernel
theorem dX11_weeks_40 : decode cX11_weeks 40 = .ok (.iaload, 1) := by decide +kernel
theorem dX11_weeks_41 : decode cX11_weeks 41 = .ok (.ireturn, 1) := by decide +kernel
theorem dX11_undo_0 : decode cX11_undo 0 = .ok (.aload_n 0, 1) := by decide +kernel
theorem dX11_undo_1 : decode cX11_undo 1 = .ok (.getfield 254, 3) := by decide +kernel
theorem dX11_undo_4 : decode cX11_undo 4 = .ok (.ifCond .ne 5, 3) := by decide +kernel
theorem dX11_undo_7 : decode cX11_undo 7 = .ok (.iconst 0, 1) := by decide +kernel
theorem dX11_undo_8 : decode cX11_undo 8 = .ok (.ireturn, 1) := by decide +kernel
theorem dX11_undo_9 : decode cX11_undo 9 = .ok (.aload_n 0, 1) := by decide +kernel
theorem dX11_undo_10 : decode cX11_undo 10 = .ok (.dup, 1) := by decide +kernel
theorem dX11_undo_11 : decode cX11_undo 11 = .ok (.getfield 254, 3) := by decide +kernel
theorem dX11_undo_14 : decode cX11_undo 14 = .ok (.iconst 1, 1) := by decide +kernel
theorem dX11_undo_15 : decode cX11_undo 15 = .ok (.isub, 1) := by decide +kernel
theorem dX11_undo_16 : decode cX11_undo 16 = .ok (.putfield 254, 3) := by decide +kernel
theorem dX11_undo_19 : decode cX11_undo 19 = .ok (.iconst 0, 1) := by decide +kernel
theorem dX11_undo_20 : decode cX11_undo 20 = .ok (.istore_n 1, 1) := by decide +kernel
theorem dX11_undo_21 : decode cX11_undo 21 = .ok (.iload_n 1, 1) := by decide +kernel
theorem dX11_undo_22 : decode cX11_undo 22 = .ok (.bipush 31, 2) := by decide +kernel
theorem dX11_undo_24 : decode cX11_undo 24 = .ok (.if_icmp .ge 29, 3) := by decide +kernel
theorem dX11_undo_27 : decode cX11_undo 27 = .ok (.aload_n 0, 1) := by decide +kernel
theorem dX11_undo_28 : decode cX11_undo 28 = .ok (.getfield 116, 3) := by decide +kernel
theorem dX11_undo_31 : decode cX11_undo 31 = .ok (.iload_n 1, 1) := by decide +kernel
theorem dX11_undo_32 : decode cX11_undo 32 = .ok (.aload_n 0, 1) := by decide +kernel
theorem dX11_undo_33 : decode cX11_undo 33 = .ok (.getfield 128, 3) := by decide +kernel
theorem dX11_undo_36 : decode cX11_undo 36 = .ok (.bipush 31, 2) := by decide +kernel
theorem dX11_undo_38 : decode cX11_undo 38 = .ok (.aload_n 0, 1) := by decide +kernel
theorem dX11_undo_39 : decode cX11_undo 39 = .ok (.getfield 254, 3) := by decide +kernel
theorem dX11_undo_42 : decode cX11_undo 42 = .ok (.imul, 1) := by decide +kernel
theorem dX11_undo_43 : decode cX11_undo 43 = .ok (.iload_n 1, 1) := by decide +kernel
theorem dX11_undo_44 : decode cX11_undo 44 = .ok (.iadd, 1) := by decide +kernel
theorem dX11_undo_45 : decode cX11_undo 45 = .ok (.iaload, 1) := by decide +kernel
theorem dX11_undo_46 : decode cX11_undo 46 = .ok (.iastore, 1) := by decide +kernel
theorem dX11_undo_47 : decode cX11_undo 47 = .ok (.iinc 1 1, 3) := by decide +kernel
theorem dX11_undo_50 : decode cX11_undo 50 = .ok (.goto (-29), 3) := by decide +kernel
theorem dX11_undo_53 : decode cX11_undo 53 = .ok (.iconst 1, 1) := by decide +kernel
theorem dX11_undo_54 : decode cX11_undo 54 = .ok (.ireturn, 1) := by decide +kernel
theorem dX11_lowestOf_0 : decode cX11_lowestOf 0 = .ok (.iconst 0, 1) := by decide +kernel
theorem dX11_lowestOf_1 : decode cX11_lowestOf 1 = .ok (.istore_n 1, 1) := by decide +kernel
theorem dX11_lowestOf_2 : decode cX11_lowestOf 2 = .ok (.iload_n 0, 1) := by decide +kernel
theorem dX11_lowestOf_3 : decode cX11_lowestOf 3 = .ok (.iload_n 1, 1) := by decide +kernel
theorem dX11_lowestOf_4 : decode cX11_lowestOf 4 = .ok (.ishr, 1) := by decide +kernel
theorem dX11_lowestOf_5 : decode cX11_lowestOf 5 = .ok (.iconst 1, 1) := by decide +kernel
theorem dX11_lowestOf_6 : decode cX11_lowestOf 6 = .ok (.iand, 1) := by decide +kernel
theorem dX11_lowestOf_7 : decode cX11_lowestOf 7 = .ok (.ifCond .ne 9, 3) := by decide +kernel
theorem dX11_lowestOf_10 : decode cX11_lowestOf 10 = .ok (.iinc 1 1, 3) := by decide +kernel
theorem dX11_lowestOf_13 : decode cX11_lowestOf 13 = .ok (.goto (-11), 3) := by decide +kernel
theorem dX11_lowestOf_16 : decode cX11_lowestOf 16 = .ok (.iload_n 1, 1) := by decide +kernel
theorem dX11_lowestOf_17 : decode cX11_lowestOf 17 = .ok (.ireturn, 1) := by decide +kernel
theorem dX11_isPart_0 : decode cX11_isPart 0 = .ok (.iload_n 0, 1) := by decide +kernel
theorem dX11_isPart_1 : decode cX11_isPart 1 = .ok (.iload_n 1, 1) := by decide +kernel
theorem dX11_isPart_2 : decode cX11_isPart 2 = .ok (.iconst (-1), 1) := by decide +kernel
theorem dX11_isPart_3 : decode cX11_isPart 3 = .ok (.ixor, 1) := by decide +kernel
theorem dX11_isPart_4 : decode cX11_isPart 4 = .ok (.iand, 1) := by decide +kernel
theorem dX11_isPart_5 : decode cX11_isPart 5 = .ok (.ifCond .ne 7, 3) := by decide +kernel
theorem dX11_isPart_8 : decode cX11_isPart 8 = .ok (.iconst 1, 1) := by decide +kernel
theorem dX11_isPart_9 : decode cX11_isPart 9 = .ok (.goto 4, 3) := by decide +kernel
theorem dX11_isPart_12 : decode cX11_isPart 12 = .ok (.iconst 0, 1) := by decide +kernel
theorem dX11_isPart_13 : decode cX11_isPart 13 = .ok (.ireturn, 1) := by decide +kernel
theorem dX11_valueAt_0 : decode cX11_valueAt 0 = .ok (.iload_n 2, 1) := by decide +kernel
theorem dX11_valueAt_1 : decode cX11_valueAt 1 = .ok (.ifCond .ne 5, 3) := by decide +kernel
theorem dX11_valueAt_4 : decode cX11_valueAt 4 = .ok (.iconst 0, 1) := by decide +kernel
theorem dX11_valueAt_5 : decode cX11_valueAt 5 = .ok (.ireturn, 1) := by decide +kernel
theorem dX11_valueAt_6 : decode cX11_valueAt 6 = .ok (.iload_n 2, 1) := by decide +kernel
theorem dX11_valueAt_7 : decode cX11_valueAt 7 = .ok (.invokestatic 434, 3) := by decide +kernel
theorem dX11_valueAt_10 : decode cX11_valueAt 10 = .ok (.istore_n 3, 1) := by decide +kernel
theorem dX11_valueAt_11 : decode cX11_valueAt 11 = .ok (.aload_n 0, 1) := by decide +kernel
theorem dX11_valueAt_12 : decode cX11_valueAt 12 = .ok (.getfield 131, 3) := by decide +kernel
theorem dX11_valueAt_15 : decode cX11_valueAt 15 = .ok (.sipush 128, 3) := by decide +kernel
theorem dX11_valueAt_18 : decode cX11_valueAt 18 = .ok (.iload_n 1, 1) := by decide +kernel
theorem dX11_valueAt_19 : decode cX11_valueAt 19 = .ok (.imul, 1) := by decide +kernel
theorem dX11_valueAt_20 : decode cX11_valueAt 20 = .ok (.iload_n 2, 1) := by decide +kernel
theorem dX11_valueAt_21 : decode cX11_valueAt 21 = .ok (.iconst 1, 1) := by decide +kernel
theorem dX11_valueAt_22 : decode cX11_valueAt 22 = .ok (.iload_n 3, 1) := by decide +kernel
theorem dX11_valueAt_23 : decode cX11_valueAt 23 = .ok (.ishl, 1) := by decide +kernel
theorem dX11_valueAt_24 : decode cX11_valueAt 24 = .ok (.iconst (-1), 1) := by decide +kernel
theorem dX11_valueAt_25 : decode cX11_valueAt 25 = .ok (.ixor, 1) := by decide +kernel
theorem dX11_valueAt_26 : decode cX11_valueAt 26 = .ok (.iand, 1) := by decide +kernel
theorem dX11_valueAt_27 : decode cX11_valueAt 27 = .ok (.iadd, 1) := by decide +kernel
theorem dX11_valueAt_28 : decode cX11_valueAt 28 = .ok (.iaload, 1) := by decide +kernel
theorem dX11_valueAt_29 : decode cX11_valueAt 29 = .ok (.istore 4, 2) := by decide +kernel
theorem dX11_valueAt_31 : decode cX11_valueAt 31 = .ok (.iload 4, 2) := by decide +kernel
theorem dX11_valueAt_33 : decode cX11_valueAt 33 = .ok (.ifCond .lt 35, 3) := by decide +kernel
theorem dX11_valueAt_36 : decode cX11_valueAt 36 = .ok (.aload_n 0, 1) := by decide +kernel
theorem dX11_valueAt_37 : decode cX11_valueAt 37 = .ok (.getfield 119, 3) := by decide +kernel
theorem dX11_valueAt_40 : decode cX11_valueAt 40 = .ok (.bipush 14, 2) := by decide +kernel
theorem dX11_valueAt_42 : decode cX11_valueAt 42 = .ok (.iload_n 3, 1) := by decide +kernel
theorem dX11_valueAt_43 : decode cX11_valueAt 43 = .ok (.iadd, 1) := by decide +kernel
theorem dX11_valueAt_44 : decode cX11_valueAt 44 = .ok (.iaload, 1) := by decide +kernel
theorem dX11_valueAt_45 : decode cX11_valueAt 45 = .ok (.iconst 1, 1) := by decide +kernel
theorem dX11_valueAt_46 : decode cX11_valueAt 46 = .ok (.if_icmp .eq 22, 3) := by decide +kernel
theorem dX11_valueAt_49 : decode cX11_valueAt 49 = .ok (.aload_n 0, 1) := by decide +kernel
theorem dX11_valueAt_50 : decode cX11_valueAt 50 = .ok (.iload_n 3, 1) := by decide +kernel
theorem dX11_valueAt_51 : decode cX11_valueAt 51 = .ok (.iload_n 1, 1) := by decide +kernel
theorem dX11_valueAt_52 : decode cX11_valueAt 52 = .ok (.invokevirtual 416, 3) := by decide +kernel
theorem dX11_valueAt_55 : decode cX11_valueAt 55 = .ok (.ifCond .eq 13, 3) := by decide +kernel
theorem dX11_valueAt_58 : decode cX11_valueAt 58 = .ok (.iload_n 2, 1) := by decide +kernel
theorem dX11_valueAt_59 : decode cX11_valueAt 59 = .ok (.aload_n 0, 1) := by decide +kernel
theorem dX11_valueAt_60 : decode cX11_valueAt 60 = .ok (.iload_n 3, 1) := by decide +kernel
theorem dX11_valueAt_61 : decode cX11_valueAt 61 = .ok (.invokevirtual 419, 3) := by decide +kernel
theorem dX11_valueAt_64 : decode cX11_valueAt 64 = .ok (.iand, 1) := by decide +kernel
theorem dX11_valueAt_65 : decode cX11_valueAt 65 = .ok (.ifCond .eq 5, 3) := by decide +kernel
theorem dX11_valueAt_68 : decode cX11_valueAt 68 = .ok (.iconst (-1), 1) := by decide +kernel
theorem dX11_valueAt_69 : decode cX11_valueAt 69 = .ok (.ireturn, 1) := by decide +kernel
theorem dX11_valueAt_70 : decode cX11_valueAt 70 = .ok (.iload 4, 2) := by decide +kernel
theorem dX11_valueAt_72 : decode cX11_valueAt 72 = .ok (.aload_n 0, 1) := by decide +kernel
theorem dX11_valueAt_73 : decode cX11_valueAt 73 = .ok (.iload_n 3, 1) := by decide +kernel
theorem dX11_valueAt_74 : decode cX11_valueAt 74 = .ok (.iload_n 1, 1) := by decide +kernel
theorem dX11_valueAt_75 : decode cX11_valueAt 75 = .ok (.iconst 0, 1) := by decide +kernel
theorem dX11_valueAt_76 : decode cX11_valueAt 76 = .ok (.invokevirtual 374, 3) := by decide +kernel
theorem dX11_valueAt_79 : decode cX11_valueAt 79 = .ok (.iadd, 1) := by decide +kernel
theorem dX11_valueAt_80 : decode cX11_valueAt 80 = .ok (.ireturn, 1) := by decide +kernel
theorem dX11_fillsValues_0 : decode cX11_fillsValues 0 = .ok (.aload_n 0, 1) := by decide +kernel
theorem dX11_fillsValues_1 : decode cX11_fillsValues 1 = .ok (.invokevirtual 326, 3) := by decide +kernel
theorem dX11_fillsValues_4 : decode cX11_fillsValues 4 = .ok (.iconst 0, 1) := by decide +kernel
theorem dX11_fillsValues_5 : decode cX11_fillsValues 5 = .ok (.istore_n 1, 1) := by decide +kernel
theorem dX11_fillsValues_6 : decode cX11_fillsValues 6 = .ok (.iload_n 1, 1) := by decide +kernel
theorem dX11_fillsValues_7 : decode cX11_fillsValues 7 = .ok (.aload_n 0, 1) := by decide +kernel
theorem dX11_fillsValues_8 : decode cX11_fillsValues 8 = .ok (.getfield 46, 3) := by decide +kernel
theorem dX11_fillsValues_11 : decode cX11_fillsValues 11 = .ok (.aload_n 0, 1) := by decide +kernel
theorem dX11_fillsValues_12 : decode cX11_fillsValues 12 = .ok (.getfield 236, 3) := by decide +kernel
theorem dX11_fillsValues_15 : decode cX11_fillsValues 15 = .ok (.iaload, 1) := by decide +kernel
theorem dX11_fillsValues_16 : decode cX11_fillsValues 16 = .ok (.if_icmp .ge 50, 3) := by decide +kernel
theorem dX11_fillsValues_19 : decode cX11_fillsValues 19 = .ok (.iconst 0, 1) := by decide +kernel
theorem dX11_fillsValues_20 : decode cX11_fillsValues 20 = .ok (.istore_n 2, 1) := by decide +kernel
theorem dX11_fillsValues_21 : decode cX11_fillsValues 21 = .ok (.iload_n 2, 1) := by decide +kernel
theorem dX11_fillsValues_22 : decode cX11_fillsValues 22 = .ok (.iconst 1, 1) := by decide +kernel
theorem dX11_fillsValues_23 : decode cX11_fillsValues 23 = .ok (.aload_n 0, 1) := by decide +kernel
theorem dX11_fillsValues_24 : decode cX11_fillsValues 24 = .ok (.getfield 55, 3) := by decide +kernel
theorem dX11_fillsValues_27 : decode cX11_fillsValues 27 = .ok (.aload_n 0, 1) := by decide +kernel
theorem dX11_fillsValues_28 : decode cX11_fillsValues 28 = .ok (.getfield 236, 3) := by decide +kernel
theorem dX11_fillsValues_31 : decode cX11_fillsValues 31 = .ok (.iaload, 1) := by decide +kernel
theorem dX11_fillsValues_32 : decode cX11_fillsValues 32 = .ok (.ishl, 1) := by decide +kernel
theorem dX11_fillsValues_33 : decode cX11_fillsValues 33 = .ok (.if_icmp .ge 27, 3) := by decide +kernel
theorem dX11_fillsValues_36 : decode cX11_fillsValues 36 = .ok (.aload_n 0, 1) := by decide +kernel
theorem dX11_fillsValues_37 : decode cX11_fillsValues 37 = .ok (.getfield 131, 3) := by decide +kernel
theorem dX11_fillsValues_40 : decode cX11_fillsValues 40 = .ok (.sipush 128, 3) := by decide +kernel
theorem dX11_fillsValues_43 : decode cX11_fillsValues 43 = .ok (.iload_n 1, 1) := by decide +kernel
theorem dX11_fillsValues_44 : decode cX11_fillsValues 44 = .ok (.imul, 1) := by decide +kernel
theorem dX11_fillsValues_45 : decode cX11_fillsValues 45 = .ok (.iload_n 2, 1) := by decide +kernel
theorem dX11_fillsValues_46 : decode cX11_fillsValues 46 = .ok (.iadd, 1) := by decide +kernel
theorem dX11_fillsValues_47 : decode cX11_fillsValues 47 = .ok (.aload_n 0, 1) := by decide +kernel
theorem dX11_fillsValues_48 : decode cX11_fillsValues 48 = .ok (.iload_n 1, 1) := by decide +kernel
theorem dX11_fillsValues_49 : decode cX11_fillsValues 49 = .ok (.iload_n 2, 1) := by decide +kernel
theorem dX11_fillsValues_50 : decode cX11_fillsValues 50 = .ok (.invokevirtual 437, 3) := by decide +kernel
theorem dX11_fillsValues_53 : decode cX11_fillsValues 53 = .ok (.iastore, 1) := by decide +kernel
theorem dX11_fillsValues_54 : decode cX11_fillsValues 54 = .ok (.iinc 2 1, 3) := by decide +kernel
theorem dX11_fillsValues_57 : decode cX11_fillsValues 57 = .ok (.goto (-36), 3) := by decide +kernel
theorem dX11_fillsValues_60 : decode cX11_fillsValues 60 = .ok (.iinc 1 1, 3) := by decide +kernel
theorem dX11_fillsValues_63 : decode cX11_fillsValues 63 = .ok (.goto (-57), 3) := by decide +kernel
theorem dX11_fillsValues_66 : decode cX11_fillsValues 66 = .ok (.return_, 1) := by decide +kernel
theorem dX11_alone_0 : decode cX11_alone 0 = .ok (.aload_n 0, 1) := by decide +kernel
theorem dX11_alone_1 : decode cX11_alone 1 = .ok (.iload_n 1, 1) := by decide +kernel
theorem dX11_alone_2 : decode cX11_alone 2 = .ok (.invokevirtual 404, 3) := by decide +kernel
theorem dX11_alone_5 : decode cX11_alone 5 = .ok (.ifCond .eq 12, 3) := by decide +kernel
theorem dX11_alone_8 : decode cX11_alone 8 = .ok (.iload_n 2, 1) := by decide +kernel
theorem dX11_alone_9 : decode cX11_alone 9 = .ok (.iconst 0, 1) := by decide +kernel
theorem dX11_alone_10 : decode cX11_alone 10 = .ok (.iconst 1, 1) := by decide +kernel
theorem dX11_alone_11 : decode cX11_alone 11 = .ok (.invokestatic 316, 3) := by decide +kernel
theorem dX11_alone_14 : decode cX11_alone 14 = .ok (.ifCond .ne 5, 3) := by decide +kernel
theorem dX11_alone_17 : decode cX11_alone 17 = .ok (.iconst (-1), 1) := by decide +kernel
theorem dX11_alone_18 : decode cX11_alone 18 = .ok (.ireturn, 1) := by decide +kernel
theorem dX11_alone_19 : decode cX11_alone 19 = .ok (.aload_n 0, 1) := by decide +kernel
theorem dX11_alone_20 : decode cX11_alone 20 = .ok (.invokevirtual 440, 3) := by decide +kernel
theorem dX11_alone_23 : decode cX11_alone 23 = .ok (.iconst 0, 1) := by decide +kernel
theorem dX11_alone_24 : decode cX11_alone 24 = .ok (.istore_n 3, 1) := by decide +kernel
theorem dX11_alone_25 : decode cX11_alone 25 = .ok (.iconst 1, 1) := by decide +kernel
theorem dX11_alone_26 : decode cX11_alone 26 = .ok (.istore 4, 2) := by decide +kernel
theorem dX11_alone_28 : decode cX11_alone 28 = .ok (.iload 4, 2) := by decide +kernel
theorem dX11_alone_30 : decode cX11_alone 30 = .ok (.iconst 1, 1) := by decide +kernel
theorem dX11_alone_31 : decode cX11_alone 31 = .ok (.aload_n 0, 1) := by decide +kernel
theorem dX11_alone_32 : decode cX11_alone 32 = .ok (.getfield 55, 3) := by decide +kernel
theorem dX11_alone_35 : decode cX11_alone 35 = .ok (.aload_n 0, 1) := by decide +kernel
theorem dX11_alone_36 : decode cX11_alone 36 = .ok (.getfield 236, 3) := by decide +kernel
theorem dX11_alone_39 : decode cX11_alone 39 = .ok (.iaload, 1) := by decide +kernel
theorem dX11_alone_40 : decode cX11_alone 40 = .ok (.ishl, 1) := by decide +kernel
theorem dX11_alone_41 : decode cX11_alone 41 = .ok (.if_icmp .ge 40, 3) := by decide +kernel
theorem dX11_alone_44 : decode cX11_alone 44 = .ok (.aload_n 0, 1) := by decide +kernel
theorem dX11_alone_45 : decode cX11_alone 45 = .ok (.getfield 131, 3) := by decide +kernel
theorem dX11_alone_48 : decode cX11_alone 48 = .ok (.sipush 128, 3) := by decide +kernel
theorem dX11_alone_51 : decode cX11_alone 51 = .ok (.iload_n 1, 1) := by decide +kernel
theorem dX11_alone_52 : decode cX11_alone 52 = .ok (.imul, 1) := by decide +kernel
theorem dX11_alone_53 : decode cX11_alone 53 = .ok (.iload 4, 2) := by decide +kernel
theorem dX11_alone_55 : decode cX11_alone 55 = .ok (.iadd, 1) := by decide +kernel
theorem dX11_alone_56 : decode cX11_alone 56 = .ok (.iaload, 1) := by decide +kernel
theorem dX11_alone_57 : decode cX11_alone 57 = .ok (.aload_n 0, 1) := by decide +kernel
theorem dX11_alone_58 : decode cX11_alone 58 = .ok (.getfield 131, 3) := by decide +kernel
theorem dX11_alone_61 : decode cX11_alone 61 = .ok (.sipush 128, 3) := by decide +kernel
theorem dX11_alone_64 : decode cX11_alone 64 = .ok (.iload_n 1, 1) := by decide +kernel
theorem dX11_alone_65 : decode cX11_alone 65 = .ok (.imul, 1) := by decide +kernel
theorem dX11_alone_66 : decode cX11_alone 66 = .ok (.iload_n 3, 1) := by decide +kernel
theorem dX11_alone_67 : decode cX11_alone 67 = .ok (.iadd, 1) := by decide +kernel
theorem dX11_alone_68 : decode cX11_alone 68 = .ok (.iaload, 1) := by decide +kernel
theorem dX11_alone_69 : decode cX11_alone 69 = .ok (.if_icmp .le 6, 3) := by decide +kernel
theorem dX11_alone_72 : decode cX11_alone 72 = .ok (.iload 4, 2) := by decide +kernel
theorem dX11_alone_74 : decode cX11_alone 74 = .ok (.istore_n 3, 1) := by decide +kernel
theorem dX11_alone_75 : decode cX11_alone 75 = .ok (.iinc 4 1, 3) := by decide +kernel
theorem dX11_alone_78 : decode cX11_alone 78 = .ok (.goto (-50), 3) := by decide +kernel
theorem dX11_alone_81 : decode cX11_alone 81 = .ok (.iload_n 2, 1) := by decide +kernel
theorem dX11_alone_82 : decode cX11_alone 82 = .ok (.ifCond .ne 18, 3) := by decide +kernel
theorem dX11_alone_85 : decode cX11_alone 85 = .ok (.aload_n 0, 1) := by decide +kernel
theorem dX11_alone_86 : decode cX11_alone 86 = .ok (.getfield 131, 3) := by decide +kernel
theorem dX11_alone_89 : decode cX11_alone 89 = .ok (.sipush 128, 3) := by decide +kernel
theorem dX11_alone_92 : decode cX11_alone 92 = .ok (.iload_n 1, 1) := by decide +kernel
theorem dX11_alone_93 : decode cX11_alone 93 = .ok (.imul, 1) := by decide +kernel
theorem dX11_alone_94 : decode cX11_alone 94 = .ok (.iload_n 3, 1) := by decide +kernel
theorem dX11_alone_95 : decode cX11_alone 95 = .ok (.iadd, 1) := by decide +kernel
theorem dX11_alone_96 : decode cX11_alone 96 = .ok (.iaload, 1) := by decide +kernel
theorem dX11_alone_97 : decode cX11_alone 97 = .ok (.goto 4, 3) := by decide +kernel
theorem dX11_alone_100 : decode cX11_alone 100 = .ok (.iload_n 3, 1) := by decide +kernel
theorem dX11_alone_101 : decode cX11_alone 101 = .ok (.ireturn, 1) := by decide +kernel
theorem dX11_bestWith_0 : decode cX11_bestWith 0 = .ok (.aload_n 0, 1) := by decide +kernel
theorem dX11_bestWith_1 : decode cX11_bestWith 1 = .ok (.getfield 131, 3) := by decide +kernel
theorem dX11_bestWith_4 : decode cX11_bestWith 4 = .ok (.sipush 128, 3) := by decide +kernel
theorem dX11_bestWith_7 : decode cX11_bestWith 7 = .ok (.iload_n 1, 1) := by decide +kernel
theorem dX11_bestWith_8 : decode cX11_bestWith 8 = .ok (.imul, 1) := by decide +kernel
theorem dX11_bestWith_9 : decode cX11_bestWith 9 = .ok (.iload_n 2, 1) := by decide +kernel
theorem dX11_bestWith_10 : decode cX11_bestWith 10 = .ok (.iadd, 1) := by decide +kernel
theorem dX11_bestWith_11 : decode cX11_bestWith 11 = .ok (.iaload, 1) := by decide +kernel
theorem dX11_bestWith_12 : decode cX11_bestWith 12 = .ok (.aload_n 0, 1) := by decide +kernel
theorem dX11_bestWith_13 : decode cX11_bestWith 13 = .ok (.getfield 134, 3) := by decide +kernel
theorem dX11_bestWith_16 : decode cX11_bestWith 16 = .ok (.sipush 128, 3) := by decide +kernel
theorem dX11_bestWith_19 : decode cX11_bestWith 19 = .ok (.iload_n 1, 1) := by decide +kernel
theorem dX11_bestWith_20 : decode cX11_bestWith 20 = .ok (.imul, 1) := by decide +kernel
theorem dX11_bestWith_21 : decode cX11_bestWith 21 = .ok (.iload_n 3, 1) := by decide +kernel
theorem dX11_bestWith_22 : decode cX11_bestWith 22 = .ok (.iload_n 2, 1) := by decide +kernel
theorem dX11_bestWith_23 : decode cX11_bestWith 23 = .ok (.iconst (-1), 1) := by decide +kernel
theorem dX11_bestWith_24 : decode cX11_bestWith 24 = .ok (.ixor, 1) := by decide +kernel
theorem dX11_bestWith_25 : decode cX11_bestWith 25 = .ok (.iand, 1) := by decide +kernel
theorem dX11_bestWith_26 : decode cX11_bestWith 26 = .ok (.iadd, 1) := by decide +kernel
theorem dX11_bestWith_27 : decode cX11_bestWith 27 = .ok (.iaload, 1) := by decide +kernel
theorem dX11_bestWith_28 : decode cX11_bestWith 28 = .ok (.iadd, 1) := by decide +kernel
theorem dX11_bestWith_29 : decode cX11_bestWith 29 = .ok (.ireturn, 1) := by decide +kernel
theorem dX11_canBe_0 : decode cX11_canBe 0 = .ok (.iload_n 2, 1) := by decide +kernel
theorem dX11_canBe_1 : decode cX11_canBe 1 = .ok (.iload_n 3, 1) := by decide +kernel
theorem dX11_canBe_2 : decode cX11_canBe 2 = .ok (.invokestatic 443, 3) := by decide +kernel
theorem dX11_canBe_5 : decode cX11_canBe 5 = .ok (.ifCond .eq 22, 3) := by decide +kernel
theorem dX11_canBe_8 : decode cX11_canBe 8 = .ok (.aload_n 0, 1) := by decide +kernel
theorem dX11_canBe_9 : decode cX11_canBe 9 = .ok (.getfield 131, 3) := by decide +kernel
theorem dX11_canBe_12 : decode cX11_canBe 12 = .ok (.sipush 128, 3) := by decide +kernel
theorem dX11_canBe_15 : decode cX11_canBe 15 = .ok (.iload_n 1, 1) := by decide +kernel
theorem dX11_canBe_16 : decode cX11_canBe 16 = .ok (.imul, 1) := by decide +kernel
theorem dX11_canBe_17 : decode cX11_canBe 17 = .ok (.iload_n 2, 1) := by decide +kernel
theorem dX11_canBe_18 : decode cX11_canBe 18 = .ok (.iadd, 1) := by decide +kernel
theorem dX11_canBe_19 : decode cX11_canBe 19 = .ok (.iaload, 1) := by decide +kernel
theorem dX11_canBe_20 : decode cX11_canBe 20 = .ok (.ifCond .lt 7, 3) := by decide +kernel
theorem dX11_canBe_23 : decode cX11_canBe 23 = .ok (.iconst 1, 1) := by decide +kernel
theorem dX11_canBe_24 : decode cX11_canBe 24 = .ok (.goto 4, 3) := by decide +kernel
theorem dX11_canBe_27 : decode cX11_canBe 27 = .ok (.iconst 0, 1) := by decide +kernel
theorem dX11_canBe_28 : decode cX11_canBe 28 = .ok (.ireturn, 1) := by decide +kernel
theorem dX11_fillsBest_0 : decode cX11_fillsBest 0 = .ok (.aload_n 0, 1) := by decide +kernel
theorem dX11_fillsBest_1 : decode cX11_fillsBest 1 = .ok (.invokevirtual 440, 3) := by decide +kernel
theorem dX11_fillsBest_4 : decode cX11_fillsBest 4 = .ok (.iconst 0, 1) := by decide +kernel
theorem dX11_fillsBest_5 : decode cX11_fillsBest 5 = .ok (.istore_n 1, 1) := by decide +kernel
theorem dX11_fillsBest_6 : decode cX11_fillsBest 6 = .ok (.iload_n 1, 1) := by decide +kernel
theorem dX11_fillsBest_7 : decode cX11_fillsBest 7 = .ok (.sipush 128, 3) := by decide +kernel
theorem dX11_fillsBest_10 : decode cX11_fillsBest 10 = .ok (.if_icmp .ge 16, 3) := by decide +kernel
theorem dX11_fillsBest_13 : decode cX11_fillsBest 13 = .ok (.aload_n 0, 1) := by decide +kernel
theorem dX11_fillsBest_14 : decode cX11_fillsBest 14 = .ok (.getfield 134, 3) := by decide +kernel
theorem dX11_fillsBest_17 : decode cX11_fillsBest 17 = .ok (.iload_n 1, 1) := by decide +kernel
theorem dX11_fillsBest_18 : decode cX11_fillsBest 18 = .ok (.iconst 0, 1) := by decide +kernel
theorem dX11_fillsBest_19 : decode cX11_fillsBest 19 = .ok (.iastore, 1) := by decide +kernel
theorem dX11_fillsBest_20 : decode cX11_fillsBest 20 = .ok (.iinc 1 1, 3) := by decide +kernel
theorem dX11_fillsBest_23 : decode cX11_fillsBest 23 = .ok (.goto (-17), 3) := by decide +kernel
theorem dX11_fillsBest_26 : decode cX11_fillsBest 26 = .ok (.iconst 0, 1) := by decide +kernel
theorem dX11_fillsBest_27 : decode cX11_fillsBest 27 = .ok (.istore_n 1, 1) := by decide +kernel
theorem dX11_fillsBest_28 : decode cX11_fillsBest 28 = .ok (.iload_n 1, 1) := by decide +kernel
theorem dX11_fillsBest_29 : decode cX11_fillsBest 29 = .ok (.aload_n 0, 1) := by decide +kernel
theorem dX11_fillsBest_30 : decode cX11_fillsBest 30 = .ok (.getfield 46, 3) := by decide +kernel
theorem dX11_fillsBest_33 : decode cX11_fillsBest 33 = .ok (.aload_n 0, 1) := by decide +kernel
theorem dX11_fillsBest_34 : decode cX11_fillsBest 34 = .ok (.getfield 236, 3) := by decide +kernel
theorem dX11_fillsBest_37 : decode cX11_fillsBest 37 = .ok (.iaload, 1) := by decide +kernel
theorem dX11_fillsBest_38 : decode cX11_fillsBest 38 = .ok (.if_icmp .ge 98, 3) := by decide +kernel
theorem dX11_fillsBest_41 : decode cX11_fillsBest 41 = .ok (.iconst 0, 1) := by decide +kernel
theorem dX11_fillsBest_42 : decode cX11_fillsBest 42 = .ok (.istore_n 2, 1) := by decide +kernel
theorem dX11_fillsBest_43 : decode cX11_fillsBest 43 = .ok (.iload_n 2, 1) := by decide +kernel
theorem dX11_fillsBest_44 : decode cX11_fillsBest 44 = .ok (.iconst 1, 1) := by decide +kernel
theorem dX11_fillsBest_45 : decode cX11_fillsBest 45 = .ok (.aload_n 0, 1) := by decide +kernel
theorem dX11_fillsBest_46 : decode cX11_fillsBest 46 = .ok (.getfield 55, 3) := by decide +kernel
theorem dX11_fillsBest_49 : decode cX11_fillsBest 49 = .ok (.aload_n 0, 1) := by decide +kernel
theorem dX11_fillsBest_50 : decode cX11_fillsBest 50 = .ok (.getfield 236, 3) := by decide +kernel
theorem dX11_fillsBest_53 : decode cX11_fillsBest 53 = .ok (.iaload, 1) := by decide +kernel
theorem dX11_fillsBest_54 : decode cX11_fillsBest 54 = .ok (.ishl, 1) := by decide +kernel
theorem dX11_fillsBest_55 : decode cX11_fillsBest 55 = .ok (.if_icmp .ge 75, 3) := by decide +kernel
theorem dX11_fillsBest_58 : decode cX11_fillsBest 58 = .ok (.iconst 0, 1) := by decide +kernel
theorem dX11_fillsBest_59 : decode cX11_fillsBest 59 = .ok (.istore_n 3, 1) := by decide +kernel
theorem dX11_fillsBest_60 : decode cX11_fillsBest 60 = .ok (.iconst 0, 1) := by decide +kernel
theorem dX11_fillsBest_61 : decode cX11_fillsBest 61 = .ok (.istore 4, 2) := by decide +kernel
theorem dX11_fillsBest_63 : decode cX11_fillsBest 63 = .ok (.iload 4, 2) := by decide +kernel
theorem dX11_fillsBest_65 : decode cX11_fillsBest 65 = .ok (.iload_n 2, 1) := by decide +kernel
theorem dX11_fillsBest_66 : decode cX11_fillsBest 66 = .ok (.if_icmp .gt 41, 3) := by decide +kernel
theorem dX11_fillsBest_69 : decode cX11_fillsBest 69 = .ok (.aload_n 0, 1) := by decide +kernel
theorem dX11_fillsBest_70 : decode cX11_fillsBest 70 = .ok (.iload_n 1, 1) := by decide +kernel
theorem dX11_fillsBest_71 : decode cX11_fillsBest 71 = .ok (.iload 4, 2) := by decide +kernel
theorem dX11_fillsBest_73 : decode cX11_fillsBest 73 = .ok (.iload_n 2, 1) := by decide +kernel
theorem dX11_fillsBest_74 : decode cX11_fillsBest 74 = .ok (.invokevirtual 446, 3) := by decide +kernel
theorem dX11_fillsBest_77 : decode cX11_fillsBest 77 = .ok (.ifCond .eq 24, 3) := by decide +kernel
theorem dX11_fillsBest_80 : decode cX11_fillsBest 80 = .ok (.aload_n 0, 1) := by decide +kernel
theorem dX11_fillsBest_81 : decode cX11_fillsBest 81 = .ok (.iload_n 1, 1) := by decide +kernel
theorem dX11_fillsBest_82 : decode cX11_fillsBest 82 = .ok (.iload 4, 2) := by decide +kernel
theorem dX11_fillsBest_84 : decode cX11_fillsBest 84 = .ok (.iload_n 2, 1) := by decide +kernel
theorem dX11_fillsBest_85 : decode cX11_fillsBest 85 = .ok (.invokevirtual 449, 3) := by decide +kernel
theorem dX11_fillsBest_88 : decode cX11_fillsBest 88 = .ok (.iload_n 3, 1) := by decide +kernel
theorem dX11_fillsBest_89 : decode cX11_fillsBest 89 = .ok (.if_icmp .le 12, 3) := by decide +kernel
theorem dX11_fillsBest_92 : decode cX11_fillsBest 92 = .ok (.aload_n 0, 1) := by decide +kernel
theorem dX11_fillsBest_93 : decode cX11_fillsBest 93 = .ok (.iload_n 1, 1) := by decide +kernel
theorem dX11_fillsBest_94 : decode cX11_fillsBest 94 = .ok (.iload 4, 2) := by decide +kernel
theorem dX11_fillsBest_96 : decode cX11_fillsBest 96 = .ok (.iload_n 2, 1) := by decide +kernel
theorem dX11_fillsBest_97 : decode cX11_fillsBest 97 = .ok (.invokevirtual 449, 3) := by decide +kernel
theorem dX11_fillsBest_100 : decode cX11_fillsBest 100 = .ok (.istore_n 3, 1) := by decide +kernel
theorem dX11_fillsBest_101 : decode cX11_fillsBest 101 = .ok (.iinc 4 1, 3) := by decide +kernel
theorem dX11_fillsBest_104 : decode cX11_fillsBest 104 = .ok (.goto (-41), 3) := by decide +kernel
theorem dX11_fillsBest_107 : decode cX11_fillsBest 107 = .ok (.aload_n 0, 1) := by decide +kernel
theorem dX11_fillsBest_108 : decode cX11_fillsBest 108 = .ok (.getfield 134, 3) := by decide +kernel
theorem dX11_fillsBest_111 : decode cX11_fillsBest 111 = .ok (.sipush 128, 3) := by decide +kernel
theorem dX11_fillsBest_114 : decode cX11_fillsBest 114 = .ok (.iload_n 1, 1) := by decide +kernel
theorem dX11_fillsBest_115 : decode cX11_fillsBest 115 = .ok (.imul, 1) := by decide +kernel
theorem dX11_fillsBest_116 : decode cX11_fillsBest 116 = .ok (.sipush 128, 3) := by decide +kernel
theorem dX11_fillsBest_119 : decode cX11_fillsBest 119 = .ok (.iadd, 1) := by decide +kernel
theorem dX11_fillsBest_120 : decode cX11_fillsBest 120 = .ok (.iload_n 2, 1) := by decide +kernel
theorem dX11_fillsBest_121 : decode cX11_fillsBest 121 = .ok (.iadd, 1) := by decide +kernel
theorem dX11_fillsBest_122 : decode cX11_fillsBest 122 = .ok (.iload_n 3, 1) := by decide +kernel
theorem dX11_fillsBest_123 : decode cX11_fillsBest 123 = .ok (.iastore, 1) := by decide +kernel
theorem dX11_fillsBest_124 : decode cX11_fillsBest 124 = .ok (.iinc 2 1, 3) := by decide +kernel
theorem dX11_fillsBest_127 : decode cX11_fillsBest 127 = .ok (.goto (-84), 3) := by decide +kernel
theorem dX11_fillsBest_130 : decode cX11_fillsBest 130 = .ok (.iinc 1 1, 3) := by decide +kernel
theorem dX11_fillsBest_133 : decode cX11_fillsBest 133 = .ok (.goto (-105), 3) := by decide +kernel
theorem dX11_fillsBest_136 : decode cX11_fillsBest 136 = .ok (.return_, 1) := by decide +kernel
theorem dX11_leastFor_0 : decode cX11_leastFor 0 = .ok (.iconst 0, 1) := by decide +kernel
theorem dX11_leastFor_1 : decode cX11_leastFor 1 = .ok (.istore_n 3, 1) := by decide +kernel
theorem dX11_leastFor_2 : decode cX11_leastFor 2 = .ok (.aload_n 0, 1) := by decide +kernel
theorem dX11_leastFor_3 : decode cX11_leastFor 3 = .ok (.iload_n 1, 1) := by decide +kernel
theorem dX11_leastFor_4 : decode cX11_leastFor 4 = .ok (.iload_n 3, 1) := by decide +kernel
theorem dX11_leastFor_5 : decode cX11_leastFor 5 = .ok (.iload_n 2, 1) := by decide +kernel
theorem dX11_leastFor_6 : decode cX11_leastFor 6 = .ok (.invokevirtual 446, 3) := by decide +kernel
theorem dX11_leastFor_9 : decode cX11_leastFor 9 = .ok (.ifCond .eq 29, 3) := by decide +kernel
theorem dX11_leastFor_12 : decode cX11_leastFor 12 = .ok (.aload_n 0, 1) := by decide +kernel
theorem dX11_leastFor_13 : decode cX11_leastFor 13 = .ok (.iload_n 1, 1) := by decide +kernel
theorem dX11_leastFor_14 : decode cX11_leastFor 14 = .ok (.iload_n 3, 1) := by decide +kernel
theorem dX11_leastFor_15 : decode cX11_leastFor 15 = .ok (.iload_n 2, 1) := by decide +kernel
theorem dX11_leastFor_16 : decode cX11_leastFor 16 = .ok (.invokevirtual 449, 3) := by decide +kernel
theorem dX11_leastFor_19 : decode cX11_leastFor 19 = .ok (.aload_n 0, 1) := by decide +kernel
theorem dX11_leastFor_20 : decode cX11_leastFor 20 = .ok (.getfield 134, 3) := by decide +kernel
theorem dX11_leastFor_23 : decode cX11_leastFor 23 = .ok (.sipush 128, 3) := by decide +kernel
theorem dX11_leastFor_26 : decode cX11_leastFor 26 = .ok (.iload_n 1, 1) := by decide +kernel
theorem dX11_leastFor_27 : decode cX11_leastFor 27 = .ok (.imul, 1) := by decide +kernel
theorem dX11_leastFor_28 : decode cX11_leastFor 28 = .ok (.sipush 128, 3) := by decide +kernel
theorem dX11_leastFor_31 : decode cX11_leastFor 31 = .ok (.iadd, 1) := by decide +kernel
theorem dX11_leastFor_32 : decode cX11_leastFor 32 = .ok (.iload_n 2, 1) := by decide +kernel
theorem dX11_leastFor_33 : decode cX11_leastFor 33 = .ok (.iadd, 1) := by decide +kernel
theorem dX11_leastFor_34 : decode cX11_leastFor 34 = .ok (.iaload, 1) := by decide +kernel
theorem dX11_leastFor_35 : decode cX11_leastFor 35 = .ok (.if_icmp .eq 9, 3) := by decide +kernel
theorem dX11_leastFor_38 : decode cX11_leastFor 38 = .ok (.iinc 3 1, 3) := by decide +kernel
theorem dX11_leastFor_41 : decode cX11_leastFor 41 = .ok (.goto (-39), 3) := by decide +kernel
theorem dX11_leastFor_44 : decode cX11_leastFor 44 = .ok (.iload_n 3, 1) := by decide +kernel
theorem dX11_leastFor_45 : decode cX11_leastFor 45 = .ok (.ireturn, 1) := by decide +kernel
theorem dX11_letting_0 : decode cX11_letting 0 = .ok (.iload_n 1, 1) := by decide +kernel
theorem dX11_letting_1 : decode cX11_letting 1 = .ok (.iconst (-1), 1) := by decide +kernel
theorem dX11_letting_2 : decode cX11_letting 2 = .ok (.if_icmp .eq 13, 3) := by decide +kernel
theorem dX11_letting_5 : decode cX11_letting 5 = .ok (.aload_n 0, 1) := by decide +kernel
theorem dX11_letting_6 : decode cX11_letting 6 = .ok (.iload_n 1, 1) := by decide +kernel
theorem dX11_letting_7 : decode cX11_letting 7 = .ok (.invokevirtual 404, 3) := by decide +kernel
theorem dX11_letting_10 : decode cX11_letting 10 = .ok (.ifCond .ne 5, 3) := by decide +kernel
theorem dX11_letting_13 : decode cX11_letting 13 = .ok (.iconst (-1), 1) := by decide +kernel
theorem dX11_letting_14 : decode cX11_letting 14 = .ok (.ireturn, 1) := by decide +kernel
theorem dX11_letting_15 : decode cX11_letting 15 = .ok (.aload_n 0, 1) := by decide +kernel
theorem dX11_letting_16 : decode cX11_letting 16 = .ok (.invokevirtual 452, 3) := by decide +kernel
theorem dX11_letting_19 : decode cX11_letting 19 = .ok (.aload_n 0, 1) := by decide +kernel
theorem dX11_letting_20 : decode cX11_letting 20 = .ok (.invokevirtual 455, 3) := by decide +kernel
theorem dX11_letting_23 : decode cX11_letting 23 = .ok (.istore_n 2, 1) := by decide +kernel
theorem dX11_letting_24 : decode cX11_letting 24 = .ok (.iload_n 1, 1) := by decide +kernel
theorem dX11_letting_25 : decode cX11_letting 25 = .ok (.iconst (-1), 1) := by decide +kernel
