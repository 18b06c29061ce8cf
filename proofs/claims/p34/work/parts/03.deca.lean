theorem dX0_init_0 : decode cX0_init 0 = .ok (.aload_n 0, 1) := by decide +kernel
theorem dX0_init_1 : decode cX0_init 1 = .ok (.invokespecial 3, 3) := by decide +kernel
theorem dX0_init_4 : decode cX0_init 4 = .ok (.aload_n 0, 1) := by decide +kernel
theorem dX0_init_5 : decode cX0_init 5 = .ok (.bipush 8, 2) := by decide +kernel
theorem dX0_init_7 : decode cX0_init 7 = .ok (.newarray .int, 2) := by decide +kernel
theorem dX0_init_9 : decode cX0_init 9 = .ok (.putfield 9, 3) := by decide +kernel
theorem dX0_init_12 : decode cX0_init 12 = .ok (.aload_n 0, 1) := by decide +kernel
theorem dX0_init_13 : decode cX0_init 13 = .ok (.bipush 8, 2) := by decide +kernel
theorem dX0_init_15 : decode cX0_init 15 = .ok (.newarray .int, 2) := by decide +kernel
theorem dX0_init_17 : decode cX0_init 17 = .ok (.putfield 15, 3) := by decide +kernel
theorem dX0_init_20 : decode cX0_init 20 = .ok (.aload_n 0, 1) := by decide +kernel
theorem dX0_init_21 : decode cX0_init 21 = .ok (.bipush 8, 2) := by decide +kernel
theorem dX0_init_23 : decode cX0_init 23 = .ok (.newarray .int, 2) := by decide +kernel
theorem dX0_init_25 : decode cX0_init 25 = .ok (.putfield 18, 3) := by decide +kernel
theorem dX0_init_28 : decode cX0_init 28 = .ok (.aload_n 0, 1) := by decide +kernel
theorem dX0_init_29 : decode cX0_init 29 = .ok (.bipush 24, 2) := by decide +kernel
theorem dX0_init_31 : decode cX0_init 31 = .ok (.newarray .int, 2) := by decide +kernel
theorem dX0_init_33 : decode cX0_init 33 = .ok (.putfield 21, 3) := by decide +kernel
theorem dX0_init_36 : decode cX0_init 36 = .ok (.aload_n 0, 1) := by decide +kernel
theorem dX0_init_37 : decode cX0_init 37 = .ok (.bipush 24, 2) := by decide +kernel
theorem dX0_init_39 : decode cX0_init 39 = .ok (.newarray .int, 2) := by decide +kernel
theorem dX0_init_41 : decode cX0_init 41 = .ok (.putfield 24, 3) := by decide +kernel
theorem dX0_init_44 : decode cX0_init 44 = .ok (.aload_n 0, 1) := by decide +kernel
theorem dX0_init_45 : decode cX0_init 45 = .ok (.bipush 24, 2) := by decide +kernel
theorem dX0_init_47 : decode cX0_init 47 = .ok (.newarray .int, 2) := by decide +kernel
theorem dX0_init_49 : decode cX0_init 49 = .ok (.putfield 27, 3) := by decide +kernel
theorem dX0_init_52 : decode cX0_init 52 = .ok (.aload_n 0, 1) := by decide +kernel
theorem dX0_init_53 : decode cX0_init 53 = .ok (.iconst (-1), 1) := by decide +kernel
theorem dX0_init_54 : decode cX0_init 54 = .ok (.putfield 30, 3) := by decide +kernel
theorem dX0_init_57 : decode cX0_init 57 = .ok (.iconst 0, 1) := by decide +kernel
theorem dX0_init_58 : decode cX0_init 58 = .ok (.istore_n 1, 1) := by decide +kernel
theorem dX0_init_59 : decode cX0_init 59 = .ok (.iload_n 1, 1) := by decide +kernel
theorem dX0_init_60 : decode cX0_init 60 = .ok (.bipush 8, 2) := by decide +kernel
theorem dX0_init_62 : decode cX0_init 62 = .ok (.if_icmp .ge 18, 3) := by decide +kernel
theorem dX0_init_65 : decode cX0_init 65 = .ok (.aload_n 0, 1) := by decide +kernel
theorem dX0_init_66 : decode cX0_init 66 = .ok (.getfield 9, 3) := by decide +kernel
theorem dX0_init_69 : decode cX0_init 69 = .ok (.iload_n 1, 1) := by decide +kernel
theorem dX0_init_70 : decode cX0_init 70 = .ok (.sipush 1000, 3) := by decide +kernel
theorem dX0_init_73 : decode cX0_init 73 = .ok (.iastore, 1) := by decide +kernel
theorem dX0_init_74 : decode cX0_init 74 = .ok (.iinc 1 1, 3) := by decide +kernel
theorem dX0_init_77 : decode cX0_init 77 = .ok (.goto (-18), 3) := by decide +kernel
theorem dX0_init_80 : decode cX0_init 80 = .ok (.iconst 0, 1) := by decide +kernel
theorem dX0_init_81 : decode cX0_init 81 = .ok (.istore_n 1, 1) := by decide +kernel
theorem dX0_init_82 : decode cX0_init 82 = .ok (.iload_n 1, 1) := by decide +kernel
theorem dX0_init_83 : decode cX0_init 83 = .ok (.bipush 24, 2) := by decide +kernel
theorem dX0_init_85 : decode cX0_init 85 = .ok (.if_icmp .ge 30, 3) := by decide +kernel
theorem dX0_init_88 : decode cX0_init 88 = .ok (.aload_n 0, 1) := by decide +kernel
theorem dX0_init_89 : decode cX0_init 89 = .ok (.getfield 21, 3) := by decide +kernel
theorem dX0_init_92 : decode cX0_init 92 = .ok (.iload_n 1, 1) := by decide +kernel
theorem dX0_init_93 : decode cX0_init 93 = .ok (.iconst (-1), 1) := by decide +kernel
theorem dX0_init_94 : decode cX0_init 94 = .ok (.iastore, 1) := by decide +kernel
theorem dX0_init_95 : decode cX0_init 95 = .ok (.aload_n 0, 1) := by decide +kernel
theorem dX0_init_96 : decode cX0_init 96 = .ok (.getfield 24, 3) := by decide +kernel
theorem dX0_init_99 : decode cX0_init 99 = .ok (.iload_n 1, 1) := by decide +kernel
theorem dX0_init_100 : decode cX0_init 100 = .ok (.iconst (-1), 1) := by decide +kernel
theorem dX0_init_101 : decode cX0_init 101 = .ok (.iastore, 1) := by decide +kernel
theorem dX0_init_102 : decode cX0_init 102 = .ok (.aload_n 0, 1) := by decide +kernel
theorem dX0_init_103 : decode cX0_init 103 = .ok (.getfield 27, 3) := by decide +kernel
theorem dX0_init_106 : decode cX0_init 106 = .ok (.iload_n 1, 1) := by decide +kernel
theorem dX0_init_107 : decode cX0_init 107 = .ok (.iconst (-1), 1) := by decide +kernel
theorem dX0_init_108 : decode cX0_init 108 = .ok (.iastore, 1) := by decide +kernel
theorem dX0_init_109 : decode cX0_init 109 = .ok (.iinc 1 1, 3) := by decide +kernel
theorem dX0_init_112 : decode cX0_init 112 = .ok (.goto (-30), 3) := by decide +kernel
theorem dX0_init_115 : decode cX0_init 115 = .ok (.return_, 1) := by decide +kernel
theorem dX0_isCalled_0 : decode cX0_isCalled 0 = .ok (.aload_n 0, 1) := by decide +kernel
theorem dX0_isCalled_1 : decode cX0_isCalled 1 = .ok (.getfield 30, 3) := by decide +kernel
theorem dX0_isCalled_4 : decode cX0_isCalled 4 = .ok (.iload_n 1, 1) := by decide +kernel
theorem dX0_isCalled_5 : decode cX0_isCalled 5 = .ok (.if_icmp .ne 7, 3) := by decide +kernel
theorem dX0_isCalled_8 : decode cX0_isCalled 8 = .ok (.iconst 1, 1) := by decide +kernel
theorem dX0_isCalled_9 : decode cX0_isCalled 9 = .ok (.goto 4, 3) := by decide +kernel
theorem dX0_isCalled_12 : decode cX0_isCalled 12 = .ok (.iconst 0, 1) := by decide +kernel
theorem dX0_isCalled_13 : decode cX0_isCalled 13 = .ok (.ireturn, 1) := by decide +kernel
theorem dX0_isBusy_0 : decode cX0_isBusy 0 = .ok (.aload_n 0, 1) := by decide +kernel
theorem dX0_isBusy_1 : decode cX0_isBusy 1 = .ok (.getfield 30, 3) := by decide +kernel
theorem dX0_isBusy_4 : decode cX0_isBusy 4 = .ok (.iconst (-1), 1) := by decide +kernel
theorem dX0_isBusy_5 : decode cX0_isBusy 5 = .ok (.if_icmp .eq 7, 3) := by decide +kernel
theorem dX0_isBusy_8 : decode cX0_isBusy 8 = .ok (.iconst 1, 1) := by decide +kernel
theorem dX0_isBusy_9 : decode cX0_isBusy 9 = .ok (.goto 4, 3) := by decide +kernel
theorem dX0_isBusy_12 : decode cX0_isBusy 12 = .ok (.iconst 0, 1) := by decide +kernel
theorem dX0_isBusy_13 : decode cX0_isBusy 13 = .ok (.ireturn, 1) := by decide +kernel
theorem dX0_isOpen_0 : decode cX0_isOpen 0 = .ok (.aload_n 0, 1) := by decide +kernel
theorem dX0_isOpen_1 : decode cX0_isOpen 1 = .ok (.invokevirtual 34, 3) := by decide +kernel
theorem dX0_isOpen_4 : decode cX0_isOpen 4 = .ok (.ifCond .eq 14, 3) := by decide +kernel
theorem dX0_isOpen_7 : decode cX0_isOpen 7 = .ok (.aload_n 0, 1) := by decide +kernel
theorem dX0_isOpen_8 : decode cX0_isOpen 8 = .ok (.getfield 38, 3) := by decide +kernel
theorem dX0_isOpen_11 : decode cX0_isOpen 11 = .ok (.ifCond .ne 7, 3) := by decide +kernel
theorem dX0_isOpen_14 : decode cX0_isOpen 14 = .ok (.iconst 1, 1) := by decide +kernel
theorem dX0_isOpen_15 : decode cX0_isOpen 15 = .ok (.goto 4, 3) := by decide +kernel
theorem dX0_isOpen_18 : decode cX0_isOpen 18 = .ok (.iconst 0, 1) := by decide +kernel
theorem dX0_isOpen_19 : decode cX0_isOpen 19 = .ok (.ireturn, 1) := by decide +kernel
theorem dX0_isAsking_0 : decode cX0_isAsking 0 = .ok (.aload_n 0, 1) := by decide +kernel
theorem dX0_isAsking_1 : decode cX0_isAsking 1 = .ok (.getfield 38, 3) := by decide +kernel
theorem dX0_isAsking_4 : decode cX0_isAsking 4 = .ok (.ireturn, 1) := by decide +kernel
theorem dX0_isSold_0 : decode cX0_isSold 0 = .ok (.iload_n 1, 1) := by decide +kernel
theorem dX0_isSold_1 : decode cX0_isSold 1 = .ok (.invokestatic 42, 3) := by decide +kernel
theorem dX0_isSold_4 : decode cX0_isSold 4 = .ok (.ifCond .eq 17, 3) := by decide +kernel
theorem dX0_isSold_7 : decode cX0_isSold 7 = .ok (.aload_n 0, 1) := by decide +kernel
theorem dX0_isSold_8 : decode cX0_isSold 8 = .ok (.getfield 21, 3) := by decide +kernel
theorem dX0_isSold_11 : decode cX0_isSold 11 = .ok (.iload_n 1, 1) := by decide +kernel
theorem dX0_isSold_12 : decode cX0_isSold 12 = .ok (.iaload, 1) := by decide +kernel
theorem dX0_isSold_13 : decode cX0_isSold 13 = .ok (.iconst (-1), 1) := by decide +kernel
theorem dX0_isSold_14 : decode cX0_isSold 14 = .ok (.if_icmp .eq 7, 3) := by decide +kernel
theorem dX0_isSold_17 : decode cX0_isSold 17 = .ok (.iconst 1, 1) := by decide +kernel
theorem dX0_isSold_18 : decode cX0_isSold 18 = .ok (.goto 4, 3) := by decide +kernel
theorem dX0_isSold_21 : decode cX0_isSold 21 = .ok (.iconst 0, 1) := by decide +kernel
theorem dX0_isSold_22 : decode cX0_isSold 22 = .ok (.ireturn, 1) := by decide +kernel
theorem dX0_basePrice_0 : decode cX0_basePrice 0 = .ok (.iload_n 0, 1) := by decide +kernel
theorem dX0_basePrice_1 : decode cX0_basePrice 1 = .ok (.iconst 3, 1) := by decide +kernel
theorem dX0_basePrice_2 : decode cX0_basePrice 2 = .ok (.irem, 1) := by decide +kernel
theorem dX0_basePrice_3 : decode cX0_basePrice 3 = .ok (.istore_n 1, 1) := by decide +kernel
theorem dX0_basePrice_4 : decode cX0_basePrice 4 = .ok (.iload_n 1, 1) := by decide +kernel
theorem dX0_basePrice_5 : decode cX0_basePrice 5 = .ok (.ifCond .ne 8, 3) := by decide +kernel
theorem dX0_basePrice_8 : decode cX0_basePrice 8 = .ok (.bipush 50, 2) := by decide +kernel
theorem dX0_basePrice_10 : decode cX0_basePrice 10 = .ok (.goto 15, 3) := by decide +kernel
theorem dX0_basePrice_13 : decode cX0_basePrice 13 = .ok (.iload_n 1, 1) := by decide +kernel
theorem dX0_basePrice_14 : decode cX0_basePrice 14 = .ok (.iconst 1, 1) := by decide +kernel
theorem dX0_basePrice_15 : decode cX0_basePrice 15 = .ok (.if_icmp .ne 8, 3) := by decide +kernel
theorem dX0_basePrice_18 : decode cX0_basePrice 18 = .ok (.bipush 30, 2) := by decide +kernel
theorem dX0_basePrice_20 : decode cX0_basePrice 20 = .ok (.goto 5, 3) := by decide +kernel
theorem dX0_basePrice_23 : decode cX0_basePrice 23 = .ok (.bipush 10, 2) := by decide +kernel
theorem dX0_basePrice_25 : decode cX0_basePrice 25 = .ok (.ireturn, 1) := by decide +kernel
theorem dX0_isForeign_0 : decode cX0_isForeign 0 = .ok (.iload_n 0, 1) := by decide +kernel
theorem dX0_isForeign_1 : decode cX0_isForeign 1 = .ok (.iconst 4, 1) := by decide +kernel
theorem dX0_isForeign_2 : decode cX0_isForeign 2 = .ok (.irem, 1) := by decide +kernel
theorem dX0_isForeign_3 : decode cX0_isForeign 3 = .ok (.ifCond .ne 7, 3) := by decide +kernel
theorem dX0_isForeign_6 : decode cX0_isForeign 6 = .ok (.iconst 1, 1) := by decide +kernel
theorem dX0_isForeign_7 : decode cX0_isForeign 7 = .ok (.goto 4, 3) := by decide +kernel
theorem dX0_isForeign_10 : decode cX0_isForeign 10 = .ok (.iconst 0, 1) := by decide +kernel
theorem dX0_isForeign_11 : decode cX0_isForeign 11 = .ok (.ireturn, 1) := by decide +kernel
theorem dX0_rightOn_0 : decode cX0_rightOn 0 = .ok (.iload_n 1, 1) := by decide +kernel
theorem dX0_rightOn_1 : decode cX0_rightOn 1 = .ok (.invokestatic 42, 3) := by decide +kernel
theorem dX0_rightOn_4 : decode cX0_rightOn 4 = .ok (.ifCond .eq 12, 3) := by decide +kernel
theorem dX0_rightOn_7 : decode cX0_rightOn 7 = .ok (.aload_n 0, 1) := by decide +kernel
theorem dX0_rightOn_8 : decode cX0_rightOn 8 = .ok (.getfield 27, 3) := by decide +kernel
theorem dX0_rightOn_11 : decode cX0_rightOn 11 = .ok (.iload_n 1, 1) := by decide +kernel
theorem dX0_rightOn_12 : decode cX0_rightOn 12 = .ok (.iaload, 1) := by decide +kernel
theorem dX0_rightOn_13 : decode cX0_rightOn 13 = .ok (.goto 4, 3) := by decide +kernel
theorem dX0_rightOn_16 : decode cX0_rightOn 16 = .ok (.iconst (-1), 1) := by decide +kernel
theorem dX0_rightOn_17 : decode cX0_rightOn 17 = .ok (.ireturn, 1) := by decide +kernel
theorem dX0_giveRight_0 : decode cX0_giveRight 0 = .ok (.aload_n 0, 1) := by decide +kernel
theorem dX0_giveRight_1 : decode cX0_giveRight 1 = .ok (.iload_n 2, 1) := by decide +kernel
theorem dX0_giveRight_2 : decode cX0_giveRight 2 = .ok (.invokevirtual 46, 3) := by decide +kernel
theorem dX0_giveRight_5 : decode cX0_giveRight 5 = .ok (.istore_n 3, 1) := by decide +kernel
theorem dX0_giveRight_6 : decode cX0_giveRight 6 = .ok (.iload_n 2, 1) := by decide +kernel
theorem dX0_giveRight_7 : decode cX0_giveRight 7 = .ok (.invokestatic 42, 3) := by decide +kernel
theorem dX0_giveRight_10 : decode cX0_giveRight 10 = .ok (.ifCond .eq 10, 3) := by decide +kernel
theorem dX0_giveRight_13 : decode cX0_giveRight 13 = .ok (.aload_n 0, 1) := by decide +kernel
theorem dX0_giveRight_14 : decode cX0_giveRight 14 = .ok (.getfield 27, 3) := by decide +kernel
theorem dX0_giveRight_17 : decode cX0_giveRight 17 = .ok (.iload_n 2, 1) := by decide +kernel
theorem dX0_giveRight_18 : decode cX0_giveRight 18 = .ok (.iload_n 1, 1) := by decide +kernel
theorem dX0_giveRight_19 : decode cX0_giveRight 19 = .ok (.iastore, 1) := by decide +kernel
theorem dX0_giveRight_20 : decode cX0_giveRight 20 = .ok (.iload_n 3, 1) := by decide +kernel
theorem dX0_giveRight_21 : decode cX0_giveRight 21 = .ok (.ireturn, 1) := by decide +kernel
theorem dX0_callUp_0 : decode cX0_callUp 0 = .ok (.aload_n 0, 1) := by decide +kernel
theorem dX0_callUp_1 : decode cX0_callUp 1 = .ok (.iload_n 1, 1) := by decide +kernel
theorem dX0_callUp_2 : decode cX0_callUp 2 = .ok (.putfield 30, 3) := by decide +kernel
theorem dX0_callUp_5 : decode cX0_callUp 5 = .ok (.aload_n 0, 1) := by decide +kernel
theorem dX0_callUp_6 : decode cX0_callUp 6 = .ok (.iconst 0, 1) := by decide +kernel
theorem dX0_callUp_7 : decode cX0_callUp 7 = .ok (.putfield 50, 3) := by decide +kernel
theorem dX0_callUp_10 : decode cX0_callUp 10 = .ok (.aload_n 0, 1) := by decide +kernel
theorem dX0_callUp_11 : decode cX0_callUp 11 = .ok (.iconst (-1), 1) := by decide +kernel
theorem dX0_callUp_12 : decode cX0_callUp 12 = .ok (.putfield 53, 3) := by decide +kernel
theorem dX0_callUp_15 : decode cX0_callUp 15 = .ok (.aload_n 0, 1) := by decide +kernel
theorem dX0_callUp_16 : decode cX0_callUp 16 = .ok (.iconst (-1), 1) := by decide +kernel
theorem dX0_callUp_17 : decode cX0_callUp 17 = .ok (.putfield 56, 3) := by decide +kernel
theorem dX0_callUp_20 : decode cX0_callUp 20 = .ok (.iload_n 1, 1) := by decide +kernel
theorem dX0_callUp_21 : decode cX0_callUp 21 = .ok (.invokestatic 59, 3) := by decide +kernel
theorem dX0_callUp_24 : decode cX0_callUp 24 = .ok (.ireturn, 1) := by decide +kernel
theorem dX0_leastBid_0 : decode cX0_leastBid 0 = .ok (.aload_n 0, 1) := by decide +kernel
theorem dX0_leastBid_1 : decode cX0_leastBid 1 = .ok (.getfield 50, 3) := by decide +kernel
theorem dX0_leastBid_4 : decode cX0_leastBid 4 = .ok (.ifCond .ne 13, 3) := by decide +kernel
theorem dX0_leastBid_7 : decode cX0_leastBid 7 = .ok (.aload_n 0, 1) := by decide +kernel
theorem dX0_leastBid_8 : decode cX0_leastBid 8 = .ok (.getfield 30, 3) := by decide +kernel
theorem dX0_leastBid_11 : decode cX0_leastBid 11 = .ok (.invokestatic 59, 3) := by decide +kernel
theorem dX0_leastBid_14 : decode cX0_leastBid 14 = .ok (.goto 9, 3) := by decide +kernel
theorem dX0_leastBid_17 : decode cX0_leastBid 17 = .ok (.aload_n 0, 1) := by decide +kernel
theorem dX0_leastBid_18 : decode cX0_leastBid 18 = .ok (.getfield 53, 3) := by decide +kernel
theorem dX0_leastBid_21 : decode cX0_leastBid 21 = .ok (.iconst 5, 1) := by decide +kernel
theorem dX0_leastBid_22 : decode cX0_leastBid 22 = .ok (.iadd, 1) := by decide +kernel
theorem dX0_leastBid_23 : decode cX0_leastBid 23 = .ok (.ireturn, 1) := by decide +kernel
theorem dX0_canPay_0 : decode cX0_canPay 0 = .ok (.iload_n 1, 1) := by decide +kernel
theorem dX0_canPay_1 : decode cX0_canPay 1 = .ok (.invokestatic 62, 3) := by decide +kernel
theorem dX0_canPay_4 : decode cX0_canPay 4 = .ok (.ifCond .eq 48, 3) := by decide +kernel
theorem dX0_canPay_7 : decode cX0_canPay 7 = .ok (.aload_n 0, 1) := by decide +kernel
theorem dX0_canPay_8 : decode cX0_canPay 8 = .ok (.getfield 9, 3) := by decide +kernel
theorem dX0_canPay_11 : decode cX0_canPay 11 = .ok (.iload_n 1, 1) := by decide +kernel
theorem dX0_canPay_12 : decode cX0_canPay 12 = .ok (.iaload, 1) := by decide +kernel
theorem dX0_canPay_13 : decode cX0_canPay 13 = .ok (.iload_n 2, 1) := by decide +kernel
theorem dX0_canPay_14 : decode cX0_canPay 14 = .ok (.if_icmp .lt 38, 3) := by decide +kernel
theorem dX0_canPay_17 : decode cX0_canPay 17 = .ok (.aload_n 0, 1) := by decide +kernel
theorem dX0_canPay_18 : decode cX0_canPay 18 = .ok (.getfield 15, 3) := by decide +kernel
theorem dX0_canPay_21 : decode cX0_canPay 21 = .ok (.iload_n 1, 1) := by decide +kernel
theorem dX0_canPay_22 : decode cX0_canPay 22 = .ok (.iaload, 1) := by decide +kernel
theorem dX0_canPay_23 : decode cX0_canPay 23 = .ok (.bipush 6, 2) := by decide +kernel
theorem dX0_canPay_25 : decode cX0_canPay 25 = .ok (.if_icmp .ge 27, 3) := by decide +kernel
theorem dX0_canPay_28 : decode cX0_canPay 28 = .ok (.aload_n 0, 1) := by decide +kernel
theorem dX0_canPay_29 : decode cX0_canPay 29 = .ok (.getfield 30, 3) := by decide +kernel
theorem dX0_canPay_32 : decode cX0_canPay 32 = .ok (.invokestatic 65, 3) := by decide +kernel
theorem dX0_canPay_35 : decode cX0_canPay 35 = .ok (.ifCond .eq 13, 3) := by decide +kernel
theorem dX0_canPay_38 : decode cX0_canPay 38 = .ok (.aload_n 0, 1) := by decide +kernel
theorem dX0_canPay_39 : decode cX0_canPay 39 = .ok (.getfield 18, 3) := by decide +kernel
theorem dX0_canPay_42 : decode cX0_canPay 42 = .ok (.iload_n 1, 1) := by decide +kernel
theorem dX0_canPay_43 : decode cX0_canPay 43 = .ok (.iaload, 1) := by decide +kernel
theorem dX0_canPay_44 : decode cX0_canPay 44 = .ok (.iconst 2, 1) := by decide +kernel
theorem dX0_canPay_45 : decode cX0_canPay 45 = .ok (.if_icmp .ge 7, 3) := by decide +kernel
theorem dX0_canPay_48 : decode cX0_canPay 48 = .ok (.iconst 1, 1) := by decide +kernel
theorem dX0_canPay_49 : decode cX0_canPay 49 = .ok (.goto 4, 3) := by decide +kernel
theorem dX0_canPay_52 : decode cX0_canPay 52 = .ok (.iconst 0, 1) := by decide +kernel
theorem dX0_canPay_53 : decode cX0_canPay 53 = .ok (.ireturn, 1) := by decide +kernel
theorem dX0_takeBid_0 : decode cX0_takeBid 0 = .ok (.aload_n 0, 1) := by decide +kernel
theorem dX0_takeBid_1 : decode cX0_takeBid 1 = .ok (.iload_n 2, 1) := by decide +kernel
theorem dX0_takeBid_2 : decode cX0_takeBid 2 = .ok (.putfield 53, 3) := by decide +kernel
theorem dX0_takeBid_5 : decode cX0_takeBid 5 = .ok (.aload_n 0, 1) := by decide +kernel
theorem dX0_takeBid_6 : decode cX0_takeBid 6 = .ok (.iload_n 1, 1) := by decide +kernel
theorem dX0_takeBid_7 : decode cX0_takeBid 7 = .ok (.putfield 56, 3) := by decide +kernel
theorem dX0_takeBid_10 : decode cX0_takeBid 10 = .ok (.aload_n 0, 1) := by decide +kernel
theorem dX0_takeBid_11 : decode cX0_takeBid 11 = .ok (.dup, 1) := by decide +kernel
theorem dX0_takeBid_12 : decode cX0_takeBid 12 = .ok (.getfield 50, 3) := by decide +kernel
theorem dX0_takeBid_15 : decode cX0_takeBid 15 = .ok (.iconst 1, 1) := by decide +kernel
theorem dX0_takeBid_16 : decode cX0_takeBid 16 = .ok (.iadd, 1) := by decide +kernel
theorem dX0_takeBid_17 : decode cX0_takeBid 17 = .ok (.putfield 50, 3) := by decide +kernel
theorem dX0_takeBid_20 : decode cX0_takeBid 20 = .ok (.aload_n 0, 1) := by decide +kernel
theorem dX0_takeBid_21 : decode cX0_takeBid 21 = .ok (.getfield 50, 3) := by decide +kernel
theorem dX0_takeBid_24 : decode cX0_takeBid 24 = .ok (.ireturn, 1) := by decide +kernel
theorem dX0_strike_0 : decode cX0_strike 0 = .ok (.aload_n 0, 1) := by decide +kernel
theorem dX0_strike_1 : decode cX0_strike 1 = .ok (.getfield 50, 3) := by decide +kernel
theorem dX0_strike_4 : decode cX0_strike 4 = .ok (.ifCond .ne 10, 3) := by decide +kernel
theorem dX0_strike_7 : decode cX0_strike 7 = .ok (.aload_n 0, 1) := by decide +kernel
theorem dX0_strike_8 : decode cX0_strike 8 = .ok (.iconst (-1), 1) := by decide +kernel
theorem dX0_strike_9 : decode cX0_strike 9 = .ok (.putfield 30, 3) := by decide +kernel
theorem dX0_strike_12 : decode cX0_strike 12 = .ok (.iconst (-1), 1) := by decide +kernel
theorem dX0_strike_13 : decode cX0_strike 13 = .ok (.ireturn, 1) := by decide +kernel
theorem dX0_strike_14 : decode cX0_strike 14 = .ok (.aload_n 0, 1) := by decide +kernel
theorem dX0_strike_15 : decode cX0_strike 15 = .ok (.aload_n 0, 1) := by decide +kernel
theorem dX0_strike_16 : decode cX0_strike 16 = .ok (.getfield 30, 3) := by decide +kernel
theorem dX0_strike_19 : decode cX0_strike 19 = .ok (.invokevirtual 46, 3) := by decide +kernel
theorem dX0_strike_22 : decode cX0_strike 22 = .ok (.istore_n 1, 1) := by decide +kernel
theorem dX0_strike_23 : decode cX0_strike 23 = .ok (.iload_n 1, 1) := by decide +kernel
theorem dX0_strike_24 : decode cX0_strike 24 = .ok (.iconst (-1), 1) := by decide +kernel
theorem dX0_strike_25 : decode cX0_strike 25 = .ok (.if_icmp .eq 30, 3) := by decide +kernel
theorem dX0_strike_28 : decode cX0_strike 28 = .ok (.iload_n 1, 1) := by decide +kernel
theorem dX0_strike_29 : decode cX0_strike 29 = .ok (.aload_n 0, 1) := by decide +kernel
theorem dX0_strike_30 : decode cX0_strike 30 = .ok (.getfield 56, 3) := by decide +kernel
theorem dX0_strike_33 : decode cX0_strike 33 = .ok (.if_icmp .eq 22, 3) := by decide +kernel
theorem dX0_strike_36 : decode cX0_strike 36 = .ok (.aload_n 0, 1) := by decide +kernel
theorem dX0_strike_37 : decode cX0_strike 37 = .ok (.iload_n 1, 1) := by decide +kernel
theorem dX0_strike_38 : decode cX0_strike 38 = .ok (.aload_n 0, 1) := by decide +kernel
theorem dX0_strike_39 : decode cX0_strike 39 = .ok (.getfield 53, 3) := by decide +kernel
theorem dX0_strike_42 : decode cX0_strike 42 = .ok (.invokevirtual 68, 3) := by decide +kernel
theorem dX0_strike_45 : decode cX0_strike 45 = .ok (.ifCond .eq 10, 3) := by decide +kernel
theorem dX0_strike_48 : decode cX0_strike 48 = .ok (.aload_n 0, 1) := by decide +kernel
theorem dX0_strike_49 : decode cX0_strike 49 = .ok (.iconst 1, 1) := by decide +kernel
theorem dX0_strike_50 : decode cX0_strike 50 = .ok (.putfield 38, 3) := by decide +kernel
theorem dX0_strike_53 : decode cX0_strike 53 = .ok (.iconst (-1), 1) := by decide +kernel
theorem dX0_strike_54 : decode cX0_strike 54 = .ok (.ireturn, 1) := by decide +kernel
theorem dX0_strike_55 : decode cX0_strike 55 = .ok (.aload_n 0, 1) := by decide +kernel
theorem dX0_strike_56 : decode cX0_strike 56 = .ok (.aload_n 0, 1) := by decide +kernel
theorem dX0_strike_57 : decode cX0_strike 57 = .ok (.getfield 56, 3) := by decide +kernel
theorem dX0_strike_60 : decode cX0_strike 60 = .ok (.invokevirtual 72, 3) := by decide +kernel
theorem dX0_strike_63 : decode cX0_strike 63 = .ok (.ireturn, 1) := by decide +kernel
theorem dX0_settle_0 : decode cX0_settle 0 = .ok (.iload_n 1, 1) := by decide +kernel
theorem dX0_settle_1 : decode cX0_settle 1 = .ok (.ifCond .eq 14, 3) := by decide +kernel
theorem dX0_settle_4 : decode cX0_settle 4 = .ok (.aload_n 0, 1) := by decide +kernel
theorem dX0_settle_5 : decode cX0_settle 5 = .ok (.aload_n 0, 1) := by decide +kernel
theorem dX0_settle_6 : decode cX0_settle 6 = .ok (.getfield 30, 3) := by decide +kernel
theorem dX0_settle_9 : decode cX0_settle 9 = .ok (.invokevirtual 46, 3) := by decide +kernel
theorem dX0_settle_12 : decode cX0_settle 12 = .ok (.goto 7, 3) := by decide +kernel
theorem dX0_settle_15 : decode cX0_settle 15 = .ok (.aload_n 0, 1) := by decide +kernel
theorem dX0_settle_16 : decode cX0_settle 16 = .ok (.getfield 56, 3) := by decide +kernel
theorem dX0_settle_19 : decode cX0_settle 19 = .ok (.istore_n 2, 1) := by decide +kernel
theorem dX0_settle_20 : decode cX0_settle 20 = .ok (.aload_n 0, 1) := by decide +kernel
theorem dX0_settle_21 : decode cX0_settle 21 = .ok (.getfield 30, 3) := by decide +kernel
theorem dX0_settle_24 : decode cX0_settle 24 = .ok (.invokestatic 42, 3) := by decide +kernel
theorem dX0_settle_27 : decode cX0_settle 27 = .ok (.ifCond .eq 13, 3) := by decide +kernel
theorem dX0_settle_30 : decode cX0_settle 30 = .ok (.aload_n 0, 1) := by decide +kernel
theorem dX0_settle_31 : decode cX0_settle 31 = .ok (.getfield 27, 3) := by decide +kernel
theorem dX0_settle_34 : decode cX0_settle 34 = .ok (.aload_n 0, 1) := by decide +kernel
theorem dX0_settle_35 : decode cX0_settle 35 = .ok (.getfield 30, 3) := by decide +kernel
theorem dX0_settle_38 : decode cX0_settle 38 = .ok (.iconst (-1), 1) := by decide +kernel
theorem dX0_settle_39 : decode cX0_settle 39 = .ok (.iastore, 1) := by decide +kernel
theorem dX0_settle_40 : decode cX0_settle 40 = .ok (.aload_n 0, 1) := by decide +kernel
theorem dX0_settle_41 : decode cX0_settle 41 = .ok (.iconst 0, 1) := by decide +kernel
theorem dX0_settle_42 : decode cX0_settle 42 = .ok (.putfield 38, 3) := by decide +kernel
theorem dX0_settle_45 : decode cX0_settle 45 = .ok (.aload_n 0, 1) := by decide +kernel
theorem dX0_settle_46 : decode cX0_settle 46 = .ok (.iload_n 2, 1) := by decide +kernel
theorem dX0_settle_47 : decode cX0_settle 47 = .ok (.invokevirtual 72, 3) := by decide +kernel
theorem dX0_settle_50 : decode cX0_settle 50 = .ok (.ireturn, 1) := by decide +kernel
theorem dX0_sellTo_0 : decode cX0_sellTo 0 = .ok (.iload_n 1, 1) := by decide +kernel
theorem dX0_sellTo_1 : decode cX0_sellTo 1 = .ok (.invokestatic 62, 3) := by decide +kernel
theorem dX0_sellTo_4 : decode cX0_sellTo 4 = .ok (.ifCond .eq 79, 3) := by decide +kernel
theorem dX0_sellTo_7 : decode cX0_sellTo 7 = .ok (.aload_n 0, 1) := by decide +kernel
theorem dX0_sellTo_8 : decode cX0_sellTo 8 = .ok (.getfield 30, 3) := by decide +kernel
theorem dX0_sellTo_11 : decode cX0_sellTo 11 = .ok (.invokestatic 42, 3) := by decide +kernel
theorem dX0_sellTo_14 : decode cX0_sellTo 14 = .ok (.ifCond .eq 69, 3) := by decide +kernel
theorem dX0_sellTo_17 : decode cX0_sellTo 17 = .ok (.aload_n 0, 1) := by decide +kernel
theorem dX0_sellTo_18 : decode cX0_sellTo 18 = .ok (.getfield 21, 3) := by decide +kernel
theorem dX0_sellTo_21 : decode cX0_sellTo 21 = .ok (.aload_n 0, 1) := by decide +kernel
theorem dX0_sellTo_22 : decode cX0_sellTo 22 = .ok (.getfield 30, 3) := by decide +kernel
theorem dX0_sellTo_25 : decode cX0_sellTo 25 = .ok (.iload_n 1, 1) := by decide +kernel
theorem dX0_sellTo_26 : decode cX0_sellTo 26 = .ok (.iastore, 1) := by decide +kernel
theorem dX0_sellTo_27 : decode cX0_sellTo 27 = .ok (.aload_n 0, 1) := by decide +kernel
theorem dX0_sellTo_28 : decode cX0_sellTo 28 = .ok (.getfield 24, 3) := by decide +kernel
theorem dX0_sellTo_31 : decode cX0_sellTo 31 = .ok (.aload_n 0, 1) := by decide +kernel
theorem dX0_sellTo_32 : decode cX0_sellTo 32 = .ok (.getfield 30, 3) := by decide +kernel
theorem dX0_sellTo_35 : decode cX0_sellTo 35 = .ok (.aload_n 0, 1) := by decide +kernel
theorem dX0_sellTo_36 : decode cX0_sellTo 36 = .ok (.getfield 53, 3) := by decide +kernel
theorem dX0_sellTo_39 : decode cX0_sellTo 39 = .ok (.iastore, 1) := by decide +kernel
theorem dX0_sellTo_40 : decode cX0_sellTo 40 = .ok (.aload_n 0, 1) := by decide +kernel
theorem dX0_sellTo_41 : decode cX0_sellTo 41 = .ok (.getfield 9, 3) := by decide +kernel
theorem dX0_sellTo_44 : decode cX0_sellTo 44 = .ok (.iload_n 1, 1) := by decide +kernel
theorem dX0_sellTo_45 : decode cX0_sellTo 45 = .ok (.dup2, 1) := by decide +kernel
theorem dX0_sellTo_46 : decode cX0_sellTo 46 = .ok (.iaload, 1) := by decide +kernel
theorem dX0_sellTo_47 : decode cX0_sellTo 47 = .ok (.aload_n 0, 1) := by decide +kernel
theorem dX0_sellTo_48 : decode cX0_sellTo 48 = .ok (.getfield 53, 3) := by decide +kernel
theorem dX0_sellTo_51 : decode cX0_sellTo 51 = .ok (.isub, 1) := by decide +kernel
theorem dX0_sellTo_52 : decode cX0_sellTo 52 = .ok (.iastore, 1) := by decide +kernel
theorem dX0_sellTo_53 : decode cX0_sellTo 53 = .ok (.aload_n 0, 1) := by decide +kernel
theorem dX0_sellTo_54 : decode cX0_sellTo 54 = .ok (.getfield 15, 3) := by decide +kernel
theorem dX0_sellTo_57 : decode cX0_sellTo 57 = .ok (.iload_n 1, 1) := by decide +kernel
theorem dX0_sellTo_58 : decode cX0_sellTo 58 = .ok (.dup2, 1) := by decide +kernel
theorem dX0_sellTo_59 : decode cX0_sellTo 59 = .ok (.iaload, 1) := by decide +kernel
theorem dX0_sellTo_60 : decode cX0_sellTo 60 = .ok (.iconst 1, 1) := by decide +kernel
theorem dX0_sellTo_61 : decode cX0_sellTo 61 = .ok (.iadd, 1) := by decide +kernel
theorem dX0_sellTo_62 : decode cX0_sellTo 62 = .ok (.iastore, 1) := by decide +kernel
theorem dX0_sellTo_63 : decode cX0_sellTo 63 = .ok (.aload_n 0, 1) := by decide +kernel
theorem dX0_sellTo_64 : decode cX0_sellTo 64 = .ok (.getfield 30, 3) := by decide +kernel
theorem dX0_sellTo_67 : decode cX0_sellTo 67 = .ok (.invokestatic 65, 3) := by decide +kernel
theorem dX0_sellTo_70 : decode cX0_sellTo 70 = .ok (.ifCond .eq 13, 3) := by decide +kernel
theorem dX0_sellTo_73 : decode cX0_sellTo 73 = .ok (.aload_n 0, 1) := by decide +kernel
theorem dX0_sellTo_74 : decode cX0_sellTo 74 = .ok (.getfield 18, 3) := by decide +kernel
theorem dX0_sellTo_77 : decode cX0_sellTo 77 = .ok (.iload_n 1, 1) := by decide +kernel
theorem dX0_sellTo_78 : decode cX0_sellTo 78 = .ok (.dup2, 1) := by decide +kernel
theorem dX0_sellTo_79 : decode cX0_sellTo 79 = .ok (.iaload, 1) := by decide +kernel
theorem dX0_sellTo_80 : decode cX0_sellTo 80 = .ok (.iconst 1, 1) := by decide +kernel
theorem dX0_sellTo_81 : decode cX0_sellTo 81 = .ok (.iadd, 1) := by decide +kernel
theorem dX0_sellTo_82 : decode cX0_sellTo 82 = .ok (.iastore, 1) := by decide +kernel
theorem dX0_sellTo_83 : decode cX0_sellTo 83 = .ok (.aload_n 0, 1) := by decide +kernel
theorem dX0_sellTo_84 : decode cX0_sellTo 84 = .ok (.iconst (-1), 1) := by decide +kernel
theorem dX0_sellTo_85 : decode cX0_sellTo 85 = .ok (.putfield 30, 3) := by decide +kernel
theorem dX0_sellTo_88 : decode cX0_sellTo 88 = .ok (.iload_n 1, 1) := by decide +kernel
theorem dX0_sellTo_89 : decode cX0_sellTo 89 = .ok (.ireturn, 1) := by decide +kernel
theorem dX0_tellOfLot_0 : decode cX0_tellOfLot 0 = .ok (.iload_n 1, 1) := by decide +kernel
theorem dX0_tellOfLot_1 : decode cX0_tellOfLot 1 = .ok (.invokestatic 42, 3) := by decide +kernel
theorem dX0_tellOfLot_4 : decode cX0_tellOfLot 4 = .ok (.ifCond .ne 5, 3) := by decide +kernel
theorem dX0_tellOfLot_7 : decode cX0_tellOfLot 7 = .ok (.iconst (-1), 1) := by decide +kernel
theorem dX0_tellOfLot_8 : decode cX0_tellOfLot 8 = .ok (.ireturn, 1) := by decide +kernel
theorem dX0_tellOfLot_9 : decode cX0_tellOfLot 9 = .ok (.iload_n 2, 1) := by decide +kernel
theorem dX0_tellOfLot_10 : decode cX0_tellOfLot 10 = .ok (.tableswitch 47 0 2 #[26, 33, 40], 26) := by decide +kernel
theorem dX0_tellOfLot_36 : decode cX0_tellOfLot 36 = .ok (.aload_n 0, 1) := by decide +kernel
theorem dX0_tellOfLot_37 : decode cX0_tellOfLot 37 = .ok (.getfield 21, 3) := by decide +kernel
theorem dX0_tellOfLot_40 : decode cX0_tellOfLot 40 = .ok (.iload_n 1, 1) := by decide +kernel
theorem dX0_tellOfLot_41 : decode cX0_tellOfLot 41 = .ok (.iaload, 1) := by decide +kernel
theorem dX0_tellOfLot_42 : decode cX0_tellOfLot 42 = .ok (.ireturn, 1) := by decide +kernel
theorem dX0_tellOfLot_43 : decode cX0_tellOfLot 43 = .ok (.aload_n 0, 1) := by decide +kernel
theorem dX0_tellOfLot_44 : decode cX0_tellOfLot 44 = .ok (.getfield 24, 3) := by decide +kernel
theorem dX0_tellOfLot_47 : decode cX0_tellOfLot 47 = .ok (.iload_n 1, 1) := by decide +kernel
theorem dX0_tellOfLot_48 : decode cX0_tellOfLot 48 = .ok (.iaload, 1) := by decide +kernel
theorem dX0_tellOfLot_49 : decode cX0_tellOfLot 49 = .ok (.ireturn, 1) := by decide +kernel
theorem dX0_tellOfLot_50 : decode cX0_tellOfLot 50 = .ok (.aload_n 0, 1) := by decide +kernel
theorem dX0_tellOfLot_51 : decode cX0_tellOfLot 51 = .ok (.getfield 27, 3) := by decide +kernel
theorem dX0_tellOfLot_54 : decode cX0_tellOfLot 54 = .ok (.iload_n 1, 1) := by decide +kernel
theorem dX0_tellOfLot_55 : decode cX0_tellOfLot 55 = .ok (.iaload, 1) := by decide +kernel
theorem dX0_tellOfLot_56 : decode cX0_tellOfLot 56 = .ok (.ireturn, 1) := by decide +kernel
theorem dX0_tellOfLot_57 : decode cX0_tellOfLot 57 = .ok (.aload_n 0, 1) := by decide +kernel
theorem dX0_tellOfLot_58 : decode cX0_tellOfLot 58 = .ok (.iload_n 1, 1) := by decide +kernel
theorem dX0_tellOfLot_59 : decode cX0_tellOfLot 59 = .ok (.invokevirtual 75, 3) := by decide +kernel
theorem dX0_tellOfLot_62 : decode cX0_tellOfLot 62 = .ok (.ifCond .eq 10, 3) := by decide +kernel
theorem dX0_tellOfLot_65 : decode cX0_tellOfLot 65 = .ok (.aload_n 0, 1) := by decide +kernel
theorem dX0_tellOfLot_66 : decode cX0_tellOfLot 66 = .ok (.getfield 53, 3) := by decide +kernel
theorem dX0_tellOfLot_69 : decode cX0_tellOfLot 69 = .ok (.goto 4, 3) := by decide +kernel
theorem dX0_tellOfLot_72 : decode cX0_tellOfLot 72 = .ok (.iconst (-1), 1) := by decide +kernel
theorem dX0_tellOfLot_73 : decode cX0_tellOfLot 73 = .ok (.ireturn, 1) := by decide +kernel
theorem dX0_tellOfClub_0 : decode cX0_tellOfClub 0 = .ok (.iload_n 1, 1) := by decide +kernel
theorem dX0_tellOfClub_1 : decode cX0_tellOfClub 1 = .ok (.invokestatic 62, 3) := by decide +kernel
theorem dX0_tellOfClub_4 : decode cX0_tellOfClub 4 = .ok (.ifCond .ne 5, 3) := by decide +kernel
theorem dX0_tellOfClub_7 : decode cX0_tellOfClub 7 = .ok (.iconst (-1), 1) := by decide +kernel
theorem dX0_tellOfClub_8 : decode cX0_tellOfClub 8 = .ok (.ireturn, 1) := by decide +kernel
theorem dX0_tellOfClub_9 : decode cX0_tellOfClub 9 = .ok (.iload_n 2, 1) := by decide +kernel
theorem dX0_tellOfClub_10 : decode cX0_tellOfClub 10 = .ok (.lookupswitch 40 #[(0, 26), (1, 33)], 26) := by decide +kernel
theorem dX0_tellOfClub_36 : decode cX0_tellOfClub 36 = .ok (.aload_n 0, 1) := by decide +kernel
theorem dX0_tellOfClub_37 : decode cX0_tellOfClub 37 = .ok (.getfield 9, 3) := by decide +kernel
theorem dX0_tellOfClub_40 : decode cX0_tellOfClub 40 = .ok (.iload_n 1, 1) := by decide +kernel
theorem dX0_tellOfClub_41 : decode cX0_tellOfClub 41 = .ok (.iaload, 1) := by decide +kernel
theorem dX0_tellOfClub_42 : decode cX0_tellOfClub 42 = .ok (.ireturn, 1) := by decide +kernel
theorem dX0_tellOfClub_43 : decode cX0_tellOfClub 43 = .ok (.aload_n 0, 1) := by decide +kernel
theorem dX0_tellOfClub_44 : decode cX0_tellOfClub 44 = .ok (.getfield 15, 3) := by decide +kernel
theorem dX0_tellOfClub_47 : decode cX0_tellOfClub 47 = .ok (.iload_n 1, 1) := by decide +kernel
theorem dX0_tellOfClub_48 : decode cX0_tellOfClub 48 = .ok (.iaload, 1) := by decide +kernel
theorem dX0_tellOfClub_49 : decode cX0_tellOfClub 49 = .ok (.ireturn, 1) := by decide +kernel
theorem dX0_tellOfClub_50 : decode cX0_tellOfClub 50 = .ok (.aload_n 0, 1) := by decide +kernel
theorem dX0_tellOfClub_51 : decode cX0_tellOfClub 51 = .ok (.getfield 18, 3) := by decide +kernel
theorem dX0_tellOfClub_54 : decode cX0_tellOfClub 54 = .ok (.iload_n 1, 1) := by decide +kernel
theorem dX0_tellOfClub_55 : decode cX0_tellOfClub 55 = .ok (.iaload, 1) := by decide +kernel
theorem dX0_tellOfClub_56 : decode cX0_tellOfClub 56 = .ok (.ireturn, 1) := by decide +kernel
theorem dX1_init_0 : decode cX1_init 0 = .ok (.aload_n 0, 1) := by decide +kernel
theorem dX1_init_1 : decode cX1_init 1 = .ok (.invokespecial 3, 3) := by decide +kernel
theorem dX1_init_4 : decode cX1_init 4 = .ok (.aload_n 0, 1) := by decide +kernel
theorem dX1_init_5 : decode cX1_init 5 = .ok (.bipush 60, 2) := by decide +kernel
theorem dX1_init_7 : decode cX1_init 7 = .ok (.anewarray 9, 3) := by decide +kernel
theorem dX1_init_10 : decode cX1_init 10 = .ok (.putfield 11, 3) := by decide +kernel
theorem dX1_init_13 : decode cX1_init 13 = .ok (.aload_n 0, 1) := by decide +kernel
theorem dX1_init_14 : decode cX1_init 14 = .ok (.new 17, 3) := by decide +kernel
theorem dX1_init_17 : decode cX1_init 17 = .ok (.dup, 1) := by decide +kernel
theorem dX1_init_18 : decode cX1_init 18 = .ok (.invokespecial 19, 3) := by decide +kernel
theorem dX1_init_21 : decode cX1_init 21 = .ok (.putfield 20, 3) := by decide +kernel
theorem dX1_init_24 : decode cX1_init 24 = .ok (.aload_n 0, 1) := by decide +kernel
theorem dX1_init_25 : decode cX1_init 25 = .ok (.new 17, 3) := by decide +kernel
theorem dX1_init_28 : decode cX1_init 28 = .ok (.dup, 1) := by decide +kernel
theorem dX1_init_29 : decode cX1_init 29 = .ok (.invokespecial 19, 3) := by decide +kernel
theorem dX1_init_32 : decode cX1_init 32 = .ok (.putfield 24, 3) := by decide +kernel
theorem dX1_init_35 : decode cX1_init 35 = .ok (.iconst 0, 1) := by decide +kernel
theorem dX1_init_36 : decode cX1_init 36 = .ok (.istore_n 1, 1) := by decide +kernel
theorem dX1_init_37 : decode cX1_init 37 = .ok (.iload_n 1, 1) := by decide +kernel
theorem dX1_init_38 : decode cX1_init 38 = .ok (.bipush 60, 2) := by decide +kernel
theorem dX1_init_40 : decode cX1_init 40 = .ok (.if_icmp .ge 22, 3) := by decide +kernel
theorem dX1_init_43 : decode cX1_init 43 = .ok (.aload_n 0, 1) := by decide +kernel
theorem dX1_init_44 : decode cX1_init 44 = .ok (.getfield 11, 3) := by decide +kernel
theorem dX1_init_47 : decode cX1_init 47 = .ok (.iload_n 1, 1) := by decide +kernel
theorem dX1_init_48 : decode cX1_init 48 = .ok (.new 9, 3) := by decide +kernel
theorem dX1_init_51 : decode cX1_init 51 = .ok (.dup, 1) := by decide +kernel
theorem dX1_init_52 : decode cX1_init 52 = .ok (.invokespecial 27, 3) := by decide +kernel
theorem dX1_init_55 : decode cX1_init 55 = .ok (.aastore, 1) := by decide +kernel
theorem dX1_init_56 : decode cX1_init 56 = .ok (.iinc 1 1, 3) := by decide +kernel
theorem dX1_init_59 : decode cX1_init 59 = .ok (.goto (-22), 3) := by decide +kernel
theorem dX1_init_62 : decode cX1_init 62 = .ok (.return_, 1) := by decide +kernel
theorem dX1_isThere_0 : decode cX1_isThere 0 = .ok (.aload_n 0, 1) := by decide +kernel
theorem dX1_isThere_1 : decode cX1_isThere 1 = .ok (.getfield 28, 3) := by decide +kernel
theorem dX1_isThere_4 : decode cX1_isThere 4 = .ok (.ireturn, 1) := by decide +kernel
theorem dX1_open_0 : decode cX1_open 0 = .ok (.aload_n 0, 1) := by decide +kernel
theorem dX1_open_1 : decode cX1_open 1 = .ok (.iconst 1, 1) := by decide +kernel
theorem dX1_open_2 : decode cX1_open 2 = .ok (.putfield 28, 3) := by decide +kernel
theorem dX1_open_5 : decode cX1_open 5 = .ok (.aload_n 0, 1) := by decide +kernel
theorem dX1_open_6 : decode cX1_open 6 = .ok (.iconst 0, 1) := by decide +kernel
theorem dX1_open_7 : decode cX1_open 7 = .ok (.putfield 32, 3) := by decide +kernel
theorem dX1_open_10 : decode cX1_open 10 = .ok (.aload_n 0, 1) := by decide +kernel
theorem dX1_open_11 : decode cX1_open 11 = .ok (.iconst 0, 1) := by decide +kernel
theorem dX1_open_12 : decode cX1_open 12 = .ok (.putfield 35, 3) := by decide +kernel
theorem dX1_open_15 : decode cX1_open 15 = .ok (.aload_n 0, 1) := by decide +kernel
theorem dX1_open_16 : decode cX1_open 16 = .ok (.iload_n 1, 1) := by decide +kernel
theorem dX1_open_17 : decode cX1_open 17 = .ok (.putfield 39, 3) := by decide +kernel
theorem dX1_open_20 : decode cX1_open 20 = .ok (.aload_n 0, 1) := by decide +kernel
theorem dX1_open_21 : decode cX1_open 21 = .ok (.iload_n 2, 1) := by decide +kernel
theorem dX1_open_22 : decode cX1_open 22 = .ok (.putfield 42, 3) := by decide +kernel
theorem dX1_open_25 : decode cX1_open 25 = .ok (.aload_n 0, 1) := by decide +kernel
theorem dX1_open_26 : decode cX1_open 26 = .ok (.iload_n 3, 1) := by decide +kernel
theorem dX1_open_27 : decode cX1_open 27 = .ok (.putfield 45, 3) := by decide +kernel
theorem dX1_open_30 : decode cX1_open 30 = .ok (.aload_n 0, 1) := by decide +kernel
theorem dX1_open_31 : decode cX1_open 31 = .ok (.iconst 0, 1) := by decide +kernel
theorem dX1_open_32 : decode cX1_open 32 = .ok (.putfield 48, 3) := by decide +kernel
theorem dX1_open_35 : decode cX1_open 35 = .ok (.aload_n 0, 1) := by decide +kernel
theorem dX1_open_36 : decode cX1_open 36 = .ok (.getfield 20, 3) := by decide +kernel
theorem dX1_open_39 : decode cX1_open 39 = .ok (.invokevirtual 51, 3) := by decide +kernel
theorem dX1_open_42 : decode cX1_open 42 = .ok (.aload_n 0, 1) := by decide +kernel
theorem dX1_open_43 : decode cX1_open 43 = .ok (.dup, 1) := by decide +kernel
theorem dX1_open_44 : decode cX1_open 44 = .ok (.getfield 54, 3) := by decide +kernel
theorem dX1_open_47 : decode cX1_open 47 = .ok (.iconst 1, 1) := by decide +kernel
theorem dX1_open_48 : decode cX1_open 48 = .ok (.iadd, 1) := by decide +kernel
theorem dX1_open_49 : decode cX1_open 49 = .ok (.putfield 54, 3) := by decide +kernel
theorem dX1_open_52 : decode cX1_open 52 = .ok (.aload_n 0, 1) := by decide +kernel
theorem dX1_open_53 : decode cX1_open 53 = .ok (.getfield 54, 3) := by decide +kernel
theorem dX1_open_56 : decode cX1_open 56 = .ok (.ireturn, 1) := by decide +kernel
theorem dX1_close_0 : decode cX1_close 0 = .ok (.aload_n 0, 1) := by decide +kernel
theorem dX1_close_1 : decode cX1_close 1 = .ok (.iconst 0, 1) := by decide +kernel
theorem dX1_close_2 : decode cX1_close 2 = .ok (.putfield 28, 3) := by decide +kernel
theorem dX1_close_5 : decode cX1_close 5 = .ok (.aload_n 0, 1) := by decide +kernel
theorem dX1_close_6 : decode cX1_close 6 = .ok (.iconst 0, 1) := by decide +kernel
theorem dX1_close_7 : decode cX1_close 7 = .ok (.putfield 35, 3) := by decide +kernel
theorem dX1_close_10 : decode cX1_close 10 = .ok (.return_, 1) := by decide +kernel
theorem dX1_countEvents_0 : decode cX1_countEvents 0 = .ok (.aload_n 0, 1) := by decide +kernel
theorem dX1_countEvents_1 : decode cX1_countEvents 1 = .ok (.getfield 35, 3) := by decide +kernel
theorem dX1_countEvents_4 : decode cX1_countEvents 4 = .ok (.ireturn, 1) := by decide +kernel
theorem dX1_countEnded_0 : decode cX1_countEnded 0 = .ok (.aload_n 0, 1) := by decide +kernel
theorem dX1_countEnded_1 : decode cX1_countEnded 1 = .ok (.getfield 32, 3) := by decide +kernel
theorem dX1_countEnded_4 : decode cX1_countEnded 4 = .ok (.ifCond .eq 12, 3) := by decide +kernel
theorem dX1_countEnded_7 : decode cX1_countEnded 7 = .ok (.aload_n 0, 1) := by decide +kernel
theorem dX1_countEnded_8 : decode cX1_countEnded 8 = .ok (.getfield 35, 3) := by decide +kernel
theorem dX1_countEnded_11 : decode cX1_countEnded 11 = .ok (.iconst 1, 1) := by decide +kernel
theorem dX1_countEnded_12 : decode cX1_countEnded 12 = .ok (.isub, 1) := by decide +kernel
theorem dX1_countEnded_13 : decode cX1_countEnded 13 = .ok (.goto 7, 3) := by decide +kernel
theorem dX1_countEnded_16 : decode cX1_countEnded 16 = .ok (.aload_n 0, 1) := by decide +kernel
theorem dX1_countEnded_17 : decode cX1_countEnded 17 = .ok (.getfield 35, 3) := by decide +kernel
theorem dX1_countEnded_20 : decode cX1_countEnded 20 = .ok (.ireturn, 1) := by decide +kernel
theorem dX1_isBetweenRaids_0 : decode cX1_isBetweenRaids 0 = .ok (.aload_n 0, 1) := by decide +kernel
theorem dX1_isBetweenRaids_1 : decode cX1_isBetweenRaids 1 = .ok (.getfield 28, 3) := by decide +kernel
theorem dX1_isBetweenRaids_4 : decode cX1_isBetweenRaids 4 = .ok (.ifCond .eq 14, 3) := by decide +kernel
theorem dX1_isBetweenRaids_7 : decode cX1_isBetweenRaids 7 = .ok (.aload_n 0, 1) := by decide +kernel
theorem dX1_isBetweenRaids_8 : decode cX1_isBetweenRaids 8 = .ok (.getfield 32, 3) := by decide +kernel
theorem dX1_isBetweenRaids_11 : decode cX1_isBetweenRaids 11 = .ok (.ifCond .ne 7, 3) := by decide +kernel
theorem dX1_isBetweenRaids_14 : decode cX1_isBetweenRaids 14 = .ok (.iconst 1, 1) := by decide +kernel
theorem dX1_isBetweenRaids_15 : decode cX1_isBetweenRaids 15 = .ok (.goto 4, 3) := by decide +kernel
theorem dX1_isBetweenRaids_18 : decode cX1_isBetweenRaids 18 = .ok (.iconst 0, 1) := by decide +kernel
theorem dX1_isBetweenRaids_19 : decode cX1_isBetweenRaids 19 = .ok (.ireturn, 1) := by decide +kernel
theorem dX1_isOver_0 : decode cX1_isOver 0 = .ok (.aload_n 0, 1) := by decide +kernel
theorem dX1_isOver_1 : decode cX1_isOver 1 = .ok (.invokevirtual 57, 3) := by decide +kernel
theorem dX1_isOver_4 : decode cX1_isOver 4 = .ok (.ifCond .eq 21, 3) := by decide +kernel
theorem dX1_isOver_7 : decode cX1_isOver 7 = .ok (.aload_n 0, 1) := by decide +kernel
theorem dX1_isOver_8 : decode cX1_isOver 8 = .ok (.getfield 20, 3) := by decide +kernel
theorem dX1_isOver_11 : decode cX1_isOver 11 = .ok (.getfield 61, 3) := by decide +kernel
theorem dX1_isOver_14 : decode cX1_isOver 14 = .ok (.aload_n 0, 1) := by decide +kernel
theorem dX1_isOver_15 : decode cX1_isOver 15 = .ok (.getfield 45, 3) := by decide +kernel
theorem dX1_isOver_18 : decode cX1_isOver 18 = .ok (.if_icmp .lt 7, 3) := by decide +kernel
theorem dX1_isOver_21 : decode cX1_isOver 21 = .ok (.iconst 1, 1) := by decide +kernel
theorem dX1_isOver_22 : decode cX1_isOver 22 = .ok (.goto 4, 3) := by decide +kernel
theorem dX1_isOver_25 : decode cX1_isOver 25 = .ok (.iconst 0, 1) := by decide +kernel
theorem dX1_isOver_26 : decode cX1_isOver 26 = .ok (.ireturn, 1) := by decide +kernel
theorem dX1_eventAt_0 : decode cX1_eventAt 0 = .ok (.iload_n 1, 1) := by decide +kernel
theorem dX1_eventAt_1 : decode cX1_eventAt 1 = .ok (.ifCond .lt 26, 3) := by decide +kernel
theorem dX1_eventAt_4 : decode cX1_eventAt 4 = .ok (.iload_n 1, 1) := by decide +kernel
theorem dX1_eventAt_5 : decode cX1_eventAt 5 = .ok (.aload_n 0, 1) := by decide +kernel
theorem dX1_eventAt_6 : decode cX1_eventAt 6 = .ok (.getfield 35, 3) := by decide +kernel
theorem dX1_eventAt_9 : decode cX1_eventAt 9 = .ok (.if_icmp .ge 18, 3) := by decide +kernel
theorem dX1_eventAt_12 : decode cX1_eventAt 12 = .ok (.iload_n 1, 1) := by decide +kernel
theorem dX1_eventAt_13 : decode cX1_eventAt 13 = .ok (.bipush 60, 2) := by decide +kernel
theorem dX1_eventAt_15 : decode cX1_eventAt 15 = .ok (.if_icmp .ge 12, 3) := by decide +kernel
theorem dX1_eventAt_18 : decode cX1_eventAt 18 = .ok (.aload_n 0, 1) := by decide +kernel
theorem dX1_eventAt_19 : decode cX1_eventAt 19 = .ok (.getfield 11, 3) := by decide +kernel
theorem dX1_eventAt_22 : decode cX1_eventAt 22 = .ok (.iload_n 1, 1) := by decide +kernel
theorem dX1_eventAt_23 : decode cX1_eventAt 23 = .ok (.aaload, 1) := by decide +kernel
theorem dX1_eventAt_24 : decode cX1_eventAt 24 = .ok (.goto 4, 3) := by decide +kernel
theorem dX1_eventAt_27 : decode cX1_eventAt 27 = .ok (.aconst_null, 1) := by decide +kernel
theorem dX1_eventAt_28 : decode cX1_eventAt 28 = .ok (.areturn, 1) := by decide +kernel
theorem dX1_raidGoingOn_0 : decode cX1_raidGoingOn 0 = .ok (.aload_n 0, 1) := by decide +kernel
theorem dX1_raidGoingOn_1 : decode cX1_raidGoingOn 1 = .ok (.getfield 32, 3) := by decide +kernel
theorem dX1_raidGoingOn_4 : decode cX1_raidGoingOn 4 = .ok (.ifCond .eq 16, 3) := by decide +kernel
theorem dX1_raidGoingOn_7 : decode cX1_raidGoingOn 7 = .ok (.aload_n 0, 1) := by decide +kernel
theorem dX1_raidGoingOn_8 : decode cX1_raidGoingOn 8 = .ok (.aload_n 0, 1) := by decide +kernel
theorem dX1_raidGoingOn_9 : decode cX1_raidGoingOn 9 = .ok (.getfield 35, 3) := by decide +kernel
theorem dX1_raidGoingOn_12 : decode cX1_raidGoingOn 12 = .ok (.iconst 1, 1) := by decide +kernel
theorem dX1_raidGoingOn_13 : decode cX1_raidGoingOn 13 = .ok (.isub, 1) := by decide +kernel
theorem dX1_raidGoingOn_14 : decode cX1_raidGoingOn 14 = .ok (.invokevirtual 64, 3) := by decide +kernel
theorem dX1_raidGoingOn_17 : decode cX1_raidGoingOn 17 = .ok (.goto 4, 3) := by decide +kernel
theorem dX1_raidGoingOn_20 : decode cX1_raidGoingOn 20 = .ok (.aconst_null, 1) := by decide +kernel
theorem dX1_raidGoingOn_21 : decode cX1_raidGoingOn 21 = .ok (.areturn, 1) := by decide +kernel
theorem dX1_addEvent_0 : decode cX1_addEvent 0 = .ok (.aload_n 0, 1) := by decide +kernel
theorem dX1_addEvent_1 : decode cX1_addEvent 1 = .ok (.getfield 35, 3) := by decide +kernel
theorem dX1_addEvent_4 : decode cX1_addEvent 4 = .ok (.ifCond .lt 12, 3) := by decide +kernel
theorem dX1_addEvent_7 : decode cX1_addEvent 7 = .ok (.aload_n 0, 1) := by decide +kernel
theorem dX1_addEvent_8 : decode cX1_addEvent 8 = .ok (.getfield 35, 3) := by decide +kernel
theorem dX1_addEvent_11 : decode cX1_addEvent 11 = .ok (.bipush 60, 2) := by decide +kernel
theorem dX1_addEvent_13 : decode cX1_addEvent 13 = .ok (.if_icmp .lt 5, 3) := by decide +kernel
theorem dX1_addEvent_16 : decode cX1_addEvent 16 = .ok (.aconst_null, 1) := by decide +kernel
theorem dX1_addEvent_17 : decode cX1_addEvent 17 = .ok (.areturn, 1) := by decide +kernel
theorem dX1_addEvent_18 : decode cX1_addEvent 18 = .ok (.aload_n 0, 1) := by decide +kernel
theorem dX1_addEvent_19 : decode cX1_addEvent 19 = .ok (.getfield 11, 3) := by decide +kernel
theorem dX1_addEvent_22 : decode cX1_addEvent 22 = .ok (.aload_n 0, 1) := by decide +kernel
theorem dX1_addEvent_23 : decode cX1_addEvent 23 = .ok (.getfield 35, 3) := by decide +kernel
theorem dX1_addEvent_26 : decode cX1_addEvent 26 = .ok (.aaload, 1) := by decide +kernel
theorem dX1_addEvent_27 : decode cX1_addEvent 27 = .ok (.astore 5, 2) := by decide +kernel
theorem dX1_addEvent_29 : decode cX1_addEvent 29 = .ok (.aload 5, 2) := by decide +kernel
theorem dX1_addEvent_31 : decode cX1_addEvent 31 = .ok (.ifnull 23, 3) := by decide +kernel
theorem dX1_addEvent_34 : decode cX1_addEvent 34 = .ok (.aload 5, 2) := by decide +kernel
theorem dX1_addEvent_36 : decode cX1_addEvent 36 = .ok (.iload_n 1, 1) := by decide +kernel
theorem dX1_addEvent_37 : decode cX1_addEvent 37 = .ok (.iload_n 2, 1) := by decide +kernel
theorem dX1_addEvent_38 : decode cX1_addEvent 38 = .ok (.iload_n 3, 1) := by decide +kernel
theorem dX1_addEvent_39 : decode cX1_addEvent 39 = .ok (.iload 4, 2) := by decide +kernel
theorem dX1_addEvent_41 : decode cX1_addEvent 41 = .ok (.invokevirtual 68, 3) := by decide +kernel
theorem dX1_addEvent_44 : decode cX1_addEvent 44 = .ok (.aload_n 0, 1) := by decide +kernel
theorem dX1_addEvent_45 : decode cX1_addEvent 45 = .ok (.dup, 1) := by decide +kernel
theorem dX1_addEvent_46 : decode cX1_addEvent 46 = .ok (.getfield 35, 3) := by decide +kernel
theorem dX1_addEvent_49 : decode cX1_addEvent 49 = .ok (.iconst 1, 1) := by decide +kernel
theorem dX1_addEvent_50 : decode cX1_addEvent 50 = .ok (.iadd, 1) := by decide +kernel
theorem dX1_addEvent_51 : decode cX1_addEvent 51 = .ok (.putfield 35, 3) := by decide +kernel
theorem dX1_addEvent_54 : decode cX1_addEvent 54 = .ok (.aload 5, 2) := by decide +kernel
theorem dX1_addEvent_56 : decode cX1_addEvent 56 = .ok (.areturn, 1) := by decide +kernel
theorem dX1_mayAdd_0 : decode cX1_mayAdd 0 = .ok (.aload_n 0, 1) := by decide +kernel
theorem dX1_mayAdd_1 : decode cX1_mayAdd 1 = .ok (.invokevirtual 57, 3) := by decide +kernel
theorem dX1_mayAdd_4 : decode cX1_mayAdd 4 = .ok (.ifCond .eq 16, 3) := by decide +kernel
theorem dX1_mayAdd_7 : decode cX1_mayAdd 7 = .ok (.aload_n 0, 1) := by decide +kernel
theorem dX1_mayAdd_8 : decode cX1_mayAdd 8 = .ok (.getfield 35, 3) := by decide +kernel
theorem dX1_mayAdd_11 : decode cX1_mayAdd 11 = .ok (.bipush 60, 2) := by decide +kernel
theorem dX1_mayAdd_13 : decode cX1_mayAdd 13 = .ok (.if_icmp .ge 7, 3) := by decide +kernel
theorem dX1_mayAdd_16 : decode cX1_mayAdd 16 = .ok (.iconst 1, 1) := by decide +kernel
theorem dX1_mayAdd_17 : decode cX1_mayAdd 17 = .ok (.goto 4, 3) := by decide +kernel
theorem dX1_mayAdd_20 : decode cX1_mayAdd 20 = .ok (.iconst 0, 1) := by decide +kernel
theorem dX1_mayAdd_21 : decode cX1_mayAdd 21 = .ok (.ireturn, 1) := by decide +kernel
theorem dX1_mayStartRaid_0 : decode cX1_mayStartRaid 0 = .ok (.aload_n 0, 1) := by decide +kernel
theorem dX1_mayStartRaid_1 : decode cX1_mayStartRaid 1 = .ok (.invokevirtual 72, 3) := by decide +kernel
theorem dX1_mayStartRaid_4 : decode cX1_mayStartRaid 4 = .ok (.ifCond .eq 42, 3) := by decide +kernel
theorem dX1_mayStartRaid_7 : decode cX1_mayStartRaid 7 = .ok (.aload_n 0, 1) := by decide +kernel
theorem dX1_mayStartRaid_8 : decode cX1_mayStartRaid 8 = .ok (.getfield 20, 3) := by decide +kernel
theorem dX1_mayStartRaid_11 : decode cX1_mayStartRaid 11 = .ok (.getfield 61, 3) := by decide +kernel
theorem dX1_mayStartRaid_14 : decode cX1_mayStartRaid 14 = .ok (.aload_n 0, 1) := by decide +kernel
theorem dX1_mayStartRaid_15 : decode cX1_mayStartRaid 15 = .ok (.getfield 45, 3) := by decide +kernel
theorem dX1_mayStartRaid_18 : decode cX1_mayStartRaid 18 = .ok (.if_icmp .ge 28, 3) := by decide +kernel
theorem dX1_mayStartRaid_21 : decode cX1_mayStartRaid 21 = .ok (.aload_n 0, 1) := by decide +kernel
theorem dX1_mayStartRaid_22 : decode cX1_mayStartRaid 22 = .ok (.getfield 20, 3) := by decide +kernel
theorem dX1_mayStartRaid_25 : decode cX1_mayStartRaid 25 = .ok (.aload_n 0, 1) := by decide +kernel
theorem dX1_mayStartRaid_26 : decode cX1_mayStartRaid 26 = .ok (.getfield 20, 3) := by decide +kernel
theorem dX1_mayStartRaid_29 : decode cX1_mayStartRaid 29 = .ok (.invokevirtual 75, 3) := by decide +kernel
theorem dX1_mayStartRaid_32 : decode cX1_mayStartRaid 32 = .ok (.invokevirtual 79, 3) := by decide +kernel
theorem dX1_mayStartRaid_35 : decode cX1_mayStartRaid 35 = .ok (.iload_n 1, 1) := by decide +kernel
theorem dX1_mayStartRaid_36 : decode cX1_mayStartRaid 36 = .ok (.invokevirtual 83, 3) := by decide +kernel
theorem dX1_mayStartRaid_39 : decode cX1_mayStartRaid 39 = .ok (.ifCond .eq 7, 3) := by decide +kernel
theorem dX1_mayStartRaid_42 : decode cX1_mayStartRaid 42 = .ok (.iconst 1, 1) := by decide +kernel
theorem dX1_mayStartRaid_43 : decode cX1_mayStartRaid 43 = .ok (.goto 4, 3) := by decide +kernel
theorem dX1_mayStartRaid_46 : decode cX1_mayStartRaid 46 = .ok (.iconst 0, 1) := by decide +kernel
theorem dX1_mayStartRaid_47 : decode cX1_mayStartRaid 47 = .ok (.ireturn, 1) := by decide +kernel
theorem dX1_startRaid_0 : decode cX1_startRaid 0 = .ok (.aload_n 0, 1) := by decide +kernel
theorem dX1_startRaid_1 : decode cX1_startRaid 1 = .ok (.iconst 0, 1) := by decide +kernel
theorem dX1_startRaid_2 : decode cX1_startRaid 2 = .ok (.aload_n 0, 1) := by decide +kernel
theorem dX1_startRaid_3 : decode cX1_startRaid 3 = .ok (.getfield 20, 3) := by decide +kernel
theorem dX1_startRaid_6 : decode cX1_startRaid 6 = .ok (.invokevirtual 75, 3) := by decide +kernel
theorem dX1_startRaid_9 : decode cX1_startRaid 9 = .ok (.iload_n 1, 1) := by decide +kernel
theorem dX1_startRaid_10 : decode cX1_startRaid 10 = .ok (.iconst (-1), 1) := by decide +kernel
theorem dX1_startRaid_11 : decode cX1_startRaid 11 = .ok (.invokevirtual 89, 3) := by decide +kernel
theorem dX1_startRaid_14 : decode cX1_startRaid 14 = .ok (.pop, 1) := by decide +kernel
theorem dX1_startRaid_15 : decode cX1_startRaid 15 = .ok (.aload_n 0, 1) := by decide +kernel
theorem dX1_startRaid_16 : decode cX1_startRaid 16 = .ok (.iconst 1, 1) := by decide +kernel
theorem dX1_startRaid_17 : decode cX1_startRaid 17 = .ok (.putfield 32, 3) := by decide +kernel
theorem dX1_startRaid_20 : decode cX1_startRaid 20 = .ok (.aload_n 0, 1) := by decide +kernel
theorem dX1_startRaid_21 : decode cX1_startRaid 21 = .ok (.getfield 35, 3) := by decide +kernel
theorem dX1_startRaid_24 : decode cX1_startRaid 24 = .ok (.iconst 1, 1) := by decide +kernel
theorem dX1_startRaid_25 : decode cX1_startRaid 25 = .ok (.isub, 1) := by decide +kernel
theorem dX1_startRaid_26 : decode cX1_startRaid 26 = .ok (.ireturn, 1) := by decide +kernel
theorem dX1_mayTell_0 : decode cX1_mayTell 0 = .ok (.aload_n 0, 1) := by decide +kernel
theorem dX1_mayTell_1 : decode cX1_mayTell 1 = .ok (.invokevirtual 93, 3) := by decide +kernel
theorem dX1_mayTell_4 : decode cX1_mayTell 4 = .ok (.astore 4, 2) := by decide +kernel
theorem dX1_mayTell_6 : decode cX1_mayTell 6 = .ok (.aload 4, 2) := by decide +kernel
theorem dX1_mayTell_8 : decode cX1_mayTell 8 = .ok (.ifnull 36, 3) := by decide +kernel
theorem dX1_mayTell_11 : decode cX1_mayTell 11 = .ok (.iload_n 3, 1) := by decide +kernel
theorem dX1_mayTell_12 : decode cX1_mayTell 12 = .ok (.aload 4, 2) := by decide +kernel
theorem dX1_mayTell_14 : decode cX1_mayTell 14 = .ok (.invokevirtual 97, 3) := by decide +kernel
theorem dX1_mayTell_17 : decode cX1_mayTell 17 = .ok (.if_icmp .le 27, 3) := by decide +kernel
theorem dX1_mayTell_20 : decode cX1_mayTell 20 = .ok (.aload_n 0, 1) := by decide +kernel
theorem dX1_mayTell_21 : decode cX1_mayTell 21 = .ok (.getfield 20, 3) := by decide +kernel
theorem dX1_mayTell_24 : decode cX1_mayTell 24 = .ok (.aload 4, 2) := by decide +kernel
theorem dX1_mayTell_26 : decode cX1_mayTell 26 = .ok (.aload 4, 2) := by decide +kernel
theorem dX1_mayTell_28 : decode cX1_mayTell 28 = .ok (.getfield 100, 3) := by decide +kernel
theorem dX1_mayTell_31 : decode cX1_mayTell 31 = .ok (.iload_n 1, 1) := by decide +kernel
theorem dX1_mayTell_32 : decode cX1_mayTell 32 = .ok (.iload_n 2, 1) := by decide +kernel
theorem dX1_mayTell_33 : decode cX1_mayTell 33 = .ok (.iload_n 3, 1) := by decide +kernel
theorem dX1_mayTell_34 : decode cX1_mayTell 34 = .ok (.invokevirtual 101, 3) := by decide +kernel
theorem dX1_mayTell_37 : decode cX1_mayTell 37 = .ok (.ifCond .eq 7, 3) := by decide +kernel
theorem dX1_mayTell_40 : decode cX1_mayTell 40 = .ok (.iconst 1, 1) := by decide +kernel
theorem dX1_mayTell_41 : decode cX1_mayTell 41 = .ok (.goto 4, 3) := by decide +kernel
theorem dX1_mayTell_44 : decode cX1_mayTell 44 = .ok (.iconst 0, 1) := by decide +kernel
theorem dX1_mayTell_45 : decode cX1_mayTell 45 = .ok (.ireturn, 1) := by decide +kernel
theorem dX1_tell_0 : decode cX1_tell 0 = .ok (.aload_n 0, 1) := by decide +kernel
theorem dX1_tell_1 : decode cX1_tell 1 = .ok (.invokevirtual 93, 3) := by decide +kernel
theorem dX1_tell_4 : decode cX1_tell 4 = .ok (.astore 4, 2) := by decide +kernel
theorem dX1_tell_6 : decode cX1_tell 6 = .ok (.aload 4, 2) := by decide +kernel
theorem dX1_tell_8 : decode cX1_tell 8 = .ok (.ifnonnull 5, 3) := by decide +kernel
theorem dX1_tell_11 : decode cX1_tell 11 = .ok (.iconst (-1), 1) := by decide +kernel
theorem dX1_tell_12 : decode cX1_tell 12 = .ok (.ireturn, 1) := by decide +kernel
theorem dX1_tell_13 : decode cX1_tell 13 = .ok (.aload 4, 2) := by decide +kernel
theorem dX1_tell_15 : decode cX1_tell 15 = .ok (.iload_n 1, 1) := by decide +kernel
theorem dX1_tell_16 : decode cX1_tell 16 = .ok (.iload_n 2, 1) := by decide +kernel
theorem dX1_tell_17 : decode cX1_tell 17 = .ok (.iload_n 3, 1) := by decide +kernel
theorem dX1_tell_18 : decode cX1_tell 18 = .ok (.invokevirtual 105, 3) := by decide +kernel
theorem dX1_tell_21 : decode cX1_tell 21 = .ok (.iload_n 1, 1) := by decide +kernel
theorem dX1_tell_22 : decode cX1_tell 22 = .ok (.invokestatic 109, 3) := by decide +kernel
theorem dX1_tell_25 : decode cX1_tell 25 = .ok (.ifCond .ne 5, 3) := by decide +kernel
theorem dX1_tell_28 : decode cX1_tell 28 = .ok (.iconst (-1), 1) := by decide +kernel
theorem dX1_tell_29 : decode cX1_tell 29 = .ok (.ireturn, 1) := by decide +kernel
theorem dX1_tell_30 : decode cX1_tell 30 = .ok (.aload_n 0, 1) := by decide +kernel
theorem dX1_tell_31 : decode cX1_tell 31 = .ok (.getfield 20, 3) := by decide +kernel
theorem dX1_tell_34 : decode cX1_tell 34 = .ok (.invokevirtual 75, 3) := by decide +kernel
theorem dX1_tell_37 : decode cX1_tell 37 = .ok (.istore 5, 2) := by decide +kernel
theorem dX1_tell_39 : decode cX1_tell 39 = .ok (.bipush 10, 2) := by decide +kernel
theorem dX1_tell_41 : decode cX1_tell 41 = .ok (.aload_n 0, 1) := by decide +kernel
theorem dX1_tell_42 : decode cX1_tell 42 = .ok (.iload 5, 2) := by decide +kernel
theorem dX1_tell_44 : decode cX1_tell 44 = .ok (.invokevirtual 112, 3) := by decide +kernel
theorem dX1_tell_47 : decode cX1_tell 47 = .ok (.imul, 1) := by decide +kernel
theorem dX1_tell_48 : decode cX1_tell 48 = .ok (.aload_n 0, 1) := by decide +kernel
theorem dX1_tell_49 : decode cX1_tell 49 = .ok (.iconst 1, 1) := by decide +kernel
theorem dX1_tell_50 : decode cX1_tell 50 = .ok (.iload 5, 2) := by decide +kernel
theorem dX1_tell_52 : decode cX1_tell 52 = .ok (.isub, 1) := by decide +kernel
theorem dX1_tell_53 : decode cX1_tell 53 = .ok (.invokevirtual 112, 3) := by decide +kernel
theorem dX1_tell_56 : decode cX1_tell 56 = .ok (.iadd, 1) := by decide +kernel
theorem dX1_tell_57 : decode cX1_tell 57 = .ok (.istore 6, 2) := by decide +kernel
theorem dX1_tell_59 : decode cX1_tell 59 = .ok (.aload_n 0, 1) := by decide +kernel
theorem dX1_tell_60 : decode cX1_tell 60 = .ok (.getfield 20, 3) := by decide +kernel
theorem dX1_tell_63 : decode cX1_tell 63 = .ok (.aload 4, 2) := by decide +kernel
theorem dX1_tell_65 : decode cX1_tell 65 = .ok (.invokevirtual 116, 3) := by decide +kernel
theorem dX1_tell_68 : decode cX1_tell 68 = .ok (.aload 4, 2) := by decide +kernel
theorem dX1_tell_70 : decode cX1_tell 70 = .ok (.aload_n 0, 1) := by decide +kernel
theorem dX1_tell_71 : decode cX1_tell 71 = .ok (.getfield 20, 3) := by decide +kernel
theorem dX1_tell_74 : decode cX1_tell 74 = .ok (.invokevirtual 120, 3) := by decide +kernel
theorem dX1_tell_77 : decode cX1_tell 77 = .ok (.aload_n 0, 1) := by decide +kernel
theorem dX1_tell_78 : decode cX1_tell 78 = .ok (.iconst 0, 1) := by decide +kernel
theorem dX1_tell_79 : decode cX1_tell 79 = .ok (.putfield 32, 3) := by decide +kernel
theorem dX1_tell_82 : decode cX1_tell 82 = .ok (.bipush 10, 2) := by decide +kernel
theorem dX1_tell_84 : decode cX1_tell 84 = .ok (.aload_n 0, 1) := by decide +kernel
theorem dX1_tell_85 : decode cX1_tell 85 = .ok (.iload 5, 2) := by decide +kernel
theorem dX1_tell_87 : decode cX1_tell 87 = .ok (.invokevirtual 112, 3) := by decide +kernel
theorem dX1_tell_90 : decode cX1_tell 90 = .ok (.imul, 1) := by decide +kernel
theorem dX1_tell_91 : decode cX1_tell 91 = .ok (.aload_n 0, 1) := by decide +kernel
theorem dX1_tell_92 : decode cX1_tell 92 = .ok (.iconst 1, 1) := by decide +kernel
theorem dX1_tell_93 : decode cX1_tell 93 = .ok (.iload 5, 2) := by decide +kernel
theorem dX1_tell_95 : decode cX1_tell 95 = .ok (.isub, 1) := by decide +kernel
theorem dX1_tell_96 : decode cX1_tell 96 = .ok (.invokevirtual 112, 3) := by decide +kernel
theorem dX1_tell_99 : decode cX1_tell 99 = .ok (.iadd, 1) := by decide +kernel
theorem dX1_tell_100 : decode cX1_tell 100 = .ok (.iload 6, 2) := by decide +kernel
theorem dX1_tell_102 : decode cX1_tell 102 = .ok (.isub, 1) := by decide +kernel
theorem dX1_tell_103 : decode cX1_tell 103 = .ok (.ireturn, 1) := by decide +kernel
theorem dX1_mayShowCard_0 : decode cX1_mayShowCard 0 = .ok (.aload_n 0, 1) := by decide +kernel
theorem dX1_mayShowCard_1 : decode cX1_mayShowCard 1 = .ok (.invokevirtual 72, 3) := by decide +kernel
theorem dX1_mayShowCard_4 : decode cX1_mayShowCard 4 = .ok (.ifCond .eq 23, 3) := by decide +kernel
theorem dX1_mayShowCard_7 : decode cX1_mayShowCard 7 = .ok (.aload_n 0, 1) := by decide +kernel
theorem dX1_mayShowCard_8 : decode cX1_mayShowCard 8 = .ok (.getfield 20, 3) := by decide +kernel
theorem dX1_mayShowCard_11 : decode cX1_mayShowCard 11 = .ok (.iload_n 1, 1) := by decide +kernel
theorem dX1_mayShowCard_12 : decode cX1_mayShowCard 12 = .ok (.invokevirtual 79, 3) := by decide +kernel
theorem dX1_mayShowCard_15 : decode cX1_mayShowCard 15 = .ok (.iload_n 2, 1) := by decide +kernel
theorem dX1_mayShowCard_16 : decode cX1_mayShowCard 16 = .ok (.iload_n 3, 1) := by decide +kernel
theorem dX1_mayShowCard_17 : decode cX1_mayShowCard 17 = .ok (.invokevirtual 124, 3) := by decide +kernel
theorem dX1_mayShowCard_20 : decode cX1_mayShowCard 20 = .ok (.ifCond .eq 7, 3) := by decide +kernel
theorem dX1_mayShowCard_23 : decode cX1_mayShowCard 23 = .ok (.iconst 1, 1) := by decide +kernel
theorem dX1_mayShowCard_24 : decode cX1_mayShowCard 24 = .ok (.goto 4, 3) := by decide +kernel
theorem dX1_mayShowCard_27 : decode cX1_mayShowCard 27 = .ok (.iconst 0, 1) := by decide +kernel
theorem dX1_mayShowCard_28 : decode cX1_mayShowCard 28 = .ok (.ireturn, 1) := by decide +kernel
theorem dX1_showCard_0 : decode cX1_showCard 0 = .ok (.aload_n 0, 1) := by decide +kernel
theorem dX1_showCard_1 : decode cX1_showCard 1 = .ok (.getfield 20, 3) := by decide +kernel
theorem dX1_showCard_4 : decode cX1_showCard 4 = .ok (.iload_n 1, 1) := by decide +kernel
theorem dX1_showCard_5 : decode cX1_showCard 5 = .ok (.invokevirtual 79, 3) := by decide +kernel
theorem dX1_showCard_8 : decode cX1_showCard 8 = .ok (.iload_n 2, 1) := by decide +kernel
theorem dX1_showCard_9 : decode cX1_showCard 9 = .ok (.iload_n 3, 1) := by decide +kernel
theorem dX1_showCard_10 : decode cX1_showCard 10 = .ok (.invokevirtual 128, 3) := by decide +kernel
theorem dX1_showCard_13 : decode cX1_showCard 13 = .ok (.istore 4, 2) := by decide +kernel
theorem dX1_showCard_15 : decode cX1_showCard 15 = .ok (.aload_n 0, 1) := by decide +kernel
theorem dX1_showCard_16 : decode cX1_showCard 16 = .ok (.iconst 1, 1) := by decide +kernel
theorem dX1_showCard_17 : decode cX1_showCard 17 = .ok (.iload_n 1, 1) := by decide +kernel
theorem dX1_showCard_18 : decode cX1_showCard 18 = .ok (.iload_n 2, 1) := by decide +kernel
theorem dX1_showCard_19 : decode cX1_showCard 19 = .ok (.iload_n 3, 1) := by decide +kernel
theorem dX1_showCard_20 : decode cX1_showCard 20 = .ok (.invokevirtual 89, 3) := by decide +kernel
theorem dX1_showCard_23 : decode cX1_showCard 23 = .ok (.astore 5, 2) := by decide +kernel
theorem dX1_showCard_25 : decode cX1_showCard 25 = .ok (.aload 5, 2) := by decide +kernel
theorem dX1_showCard_27 : decode cX1_showCard 27 = .ok (.ifnull 21, 3) := by decide +kernel
theorem dX1_showCard_30 : decode cX1_showCard 30 = .ok (.aload_n 0, 1) := by decide +kernel
theorem dX1_showCard_31 : decode cX1_showCard 31 = .ok (.getfield 20, 3) := by decide +kernel
theorem dX1_showCard_34 : decode cX1_showCard 34 = .ok (.aload 5, 2) := by decide +kernel
theorem dX1_showCard_36 : decode cX1_showCard 36 = .ok (.invokevirtual 116, 3) := by decide +kernel
theorem dX1_showCard_39 : decode cX1_showCard 39 = .ok (.aload 5, 2) := by decide +kernel
theorem dX1_showCard_41 : decode cX1_showCard 41 = .ok (.aload_n 0, 1) := by decide +kernel
theorem dX1_showCard_42 : decode cX1_showCard 42 = .ok (.getfield 20, 3) := by decide +kernel
theorem dX1_showCard_45 : decode cX1_showCard 45 = .ok (.invokevirtual 120, 3) := by decide +kernel
theorem dX1_showCard_48 : decode cX1_showCard 48 = .ok (.iload 4, 2) := by decide +kernel
theorem dX1_showCard_50 : decode cX1_showCard 50 = .ok (.ireturn, 1) := by decide +kernel
theorem dX1_maySwap_0 : decode cX1_maySwap 0 = .ok (.aload_n 0, 1) := by decide +kernel
theorem dX1_maySwap_1 : decode cX1_maySwap 1 = .ok (.invokevirtual 72, 3) := by decide +kernel
theorem dX1_maySwap_4 : decode cX1_maySwap 4 = .ok (.ifCond .eq 23, 3) := by decide +kernel
theorem dX1_maySwap_7 : decode cX1_maySwap 7 = .ok (.aload_n 0, 1) := by decide +kernel
theorem dX1_maySwap_8 : decode cX1_maySwap 8 = .ok (.getfield 20, 3) := by decide +kernel
theorem dX1_maySwap_11 : decode cX1_maySwap 11 = .ok (.iload_n 1, 1) := by decide +kernel
theorem dX1_maySwap_12 : decode cX1_maySwap 12 = .ok (.invokevirtual 79, 3) := by decide +kernel
theorem dX1_maySwap_15 : decode cX1_maySwap 15 = .ok (.iload_n 2, 1) := by decide +kernel
theorem dX1_maySwap_16 : decode cX1_maySwap 16 = .ok (.iload_n 3, 1) := by decide +kernel
theorem dX1_maySwap_17 : decode cX1_maySwap 17 = .ok (.invokevirtual 132, 3) := by decide +kernel
theorem dX1_maySwap_20 : decode cX1_maySwap 20 = .ok (.ifCond .eq 7, 3) := by decide +kernel
theorem dX1_maySwap_23 : decode cX1_maySwap 23 = .ok (.iconst 1, 1) := by decide +kernel
theorem dX1_maySwap_24 : decode cX1_maySwap 24 = .ok (.goto 4, 3) := by decide +kernel
theorem dX1_maySwap_27 : decode cX1_maySwap 27 = .ok (.iconst 0, 1) := by decide +kernel
theorem dX1_maySwap_28 : decode cX1_maySwap 28 = .ok (.ireturn, 1) := by decide +kernel
theorem dX1_swap_0 : decode cX1_swap 0 = .ok (.aload_n 0, 1) := by decide +kernel
theorem dX1_swap_1 : decode cX1_swap 1 = .ok (.iconst 2, 1) := by decide +kernel
theorem dX1_swap_2 : decode cX1_swap 2 = .ok (.iload_n 1, 1) := by decide +kernel
theorem dX1_swap_3 : decode cX1_swap 3 = .ok (.iload_n 2, 1) := by decide +kernel
theorem dX1_swap_4 : decode cX1_swap 4 = .ok (.iload_n 3, 1) := by decide +kernel
theorem dX1_swap_5 : decode cX1_swap 5 = .ok (.invokevirtual 89, 3) := by decide +kernel
theorem dX1_swap_8 : decode cX1_swap 8 = .ok (.astore 4, 2) := by decide +kernel
theorem dX1_swap_10 : decode cX1_swap 10 = .ok (.aload 4, 2) := by decide +kernel
theorem dX1_swap_12 : decode cX1_swap 12 = .ok (.ifnull 21, 3) := by decide +kernel
theorem dX1_swap_15 : decode cX1_swap 15 = .ok (.aload_n 0, 1) := by decide +kernel
theorem dX1_swap_16 : decode cX1_swap 16 = .ok (.getfield 20, 3) := by decide +kernel
theorem dX1_swap_19 : decode cX1_swap 19 = .ok (.aload 4, 2) := by decide +kernel
theorem dX1_swap_21 : decode cX1_swap 21 = .ok (.invokevirtual 116, 3) := by decide +kernel
theorem dX1_swap_24 : decode cX1_swap 24 = .ok (.aload 4, 2) := by decide +kernel
theorem dX1_swap_26 : decode cX1_swap 26 = .ok (.aload_n 0, 1) := by decide +kernel
theorem dX1_swap_27 : decode cX1_swap 27 = .ok (.getfield 20, 3) := by decide +kernel
theorem dX1_swap_30 : decode cX1_swap 30 = .ok (.invokevirtual 120, 3) := by decide +kernel
theorem dX1_swap_33 : decode cX1_swap 33 = .ok (.aload_n 0, 1) := by decide +kernel
theorem dX1_swap_34 : decode cX1_swap 34 = .ok (.getfield 20, 3) := by decide +kernel
theorem dX1_swap_37 : decode cX1_swap 37 = .ok (.iload_n 1, 1) := by decide +kernel
theorem dX1_swap_38 : decode cX1_swap 38 = .ok (.invokevirtual 79, 3) := by decide +kernel
theorem dX1_swap_41 : decode cX1_swap 41 = .ok (.getfield 135, 3) := by decide +kernel
theorem dX1_swap_44 : decode cX1_swap 44 = .ok (.ireturn, 1) := by decide +kernel
theorem dX1_stepsOf_0 : decode cX1_stepsOf 0 = .ok (.iload_n 1, 1) := by decide +kernel
theorem dX1_stepsOf_1 : decode cX1_stepsOf 1 = .ok (.aload_n 0, 1) := by decide +kernel
theorem dX1_stepsOf_2 : decode cX1_stepsOf 2 = .ok (.invokevirtual 138, 3) := by decide +kernel
theorem dX1_stepsOf_5 : decode cX1_stepsOf 5 = .ok (.if_icmp .ge 11, 3) := by decide +kernel
theorem dX1_stepsOf_8 : decode cX1_stepsOf 8 = .ok (.aload_n 0, 1) := by decide +kernel
theorem dX1_stepsOf_9 : decode cX1_stepsOf 9 = .ok (.iload_n 1, 1) := by decide +kernel
theorem dX1_stepsOf_10 : decode cX1_stepsOf 10 = .ok (.invokevirtual 64, 3) := by decide +kernel
theorem dX1_stepsOf_13 : decode cX1_stepsOf 13 = .ok (.goto 4, 3) := by decide +kernel
theorem dX1_stepsOf_16 : decode cX1_stepsOf 16 = .ok (.aconst_null, 1) := by decide +kernel
theorem dX1_stepsOf_17 : decode cX1_stepsOf 17 = .ok (.astore_n 2, 1) := by decide +kernel
theorem dX1_stepsOf_18 : decode cX1_stepsOf 18 = .ok (.aload_n 2, 1) := by decide +kernel
theorem dX1_stepsOf_19 : decode cX1_stepsOf 19 = .ok (.ifnull 17, 3) := by decide +kernel
theorem dX1_stepsOf_22 : decode cX1_stepsOf 22 = .ok (.aload_n 2, 1) := by decide +kernel
theorem dX1_stepsOf_23 : decode cX1_stepsOf 23 = .ok (.invokevirtual 141, 3) := by decide +kernel
theorem dX1_stepsOf_26 : decode cX1_stepsOf 26 = .ok (.ifCond .eq 10, 3) := by decide +kernel
theorem dX1_stepsOf_29 : decode cX1_stepsOf 29 = .ok (.aload_n 2, 1) := by decide +kernel
theorem dX1_stepsOf_30 : decode cX1_stepsOf 30 = .ok (.getfield 100, 3) := by decide +kernel
theorem dX1_stepsOf_33 : decode cX1_stepsOf 33 = .ok (.goto 4, 3) := by decide +kernel
theorem dX1_stepsOf_36 : decode cX1_stepsOf 36 = .ok (.iconst 0, 1) := by decide +kernel
theorem dX1_stepsOf_37 : decode cX1_stepsOf 37 = .ok (.ireturn, 1) := by decide +kernel
theorem dX1_keepsReview_0 : decode cX1_keepsReview 0 = .ok (.aload_n 0, 1) := by decide +kernel
theorem dX1_keepsReview_1 : decode cX1_keepsReview 1 = .ok (.getfield 48, 3) := by decide +kernel
theorem dX1_keepsReview_4 : decode cX1_keepsReview 4 = .ok (.iload_n 1, 1) := by decide +kernel
theorem dX1_keepsReview_5 : decode cX1_keepsReview 5 = .ok (.ishr, 1) := by decide +kernel
theorem dX1_keepsReview_6 : decode cX1_keepsReview 6 = .ok (.iconst 1, 1) := by decide +kernel
theorem dX1_keepsReview_7 : decode cX1_keepsReview 7 = .ok (.iand, 1) := by decide +kernel
theorem dX1_keepsReview_8 : decode cX1_keepsReview 8 = .ok (.ifCond .ne 7, 3) := by decide +kernel
theorem dX1_keepsReview_11 : decode cX1_keepsReview 11 = .ok (.iconst 1, 1) := by decide +kernel
theorem dX1_keepsReview_12 : decode cX1_keepsReview 12 = .ok (.goto 4, 3) := by decide +kernel
theorem dX1_keepsReview_15 : decode cX1_keepsReview 15 = .ok (.iconst 0, 1) := by decide +kernel
theorem dX1_keepsReview_16 : decode cX1_keepsReview 16 = .ok (.ireturn, 1) := by decide +kernel
theorem dX1_firstFallen_0 : decode cX1_firstFallen 0 = .ok (.aload_n 0, 1) := by decide +kernel
theorem dX1_firstFallen_1 : decode cX1_firstFallen 1 = .ok (.iload_n 1, 1) := by decide +kernel
theorem dX1_firstFallen_2 : decode cX1_firstFallen 2 = .ok (.invokevirtual 64, 3) := by decide +kernel
theorem dX1_firstFallen_5 : decode cX1_firstFallen 5 = .ok (.astore 5, 2) := by decide +kernel
theorem dX1_firstFallen_7 : decode cX1_firstFallen 7 = .ok (.aload 5, 2) := by decide +kernel
theorem dX1_firstFallen_9 : decode cX1_firstFallen 9 = .ok (.ifnull 19, 3) := by decide +kernel
theorem dX1_firstFallen_12 : decode cX1_firstFallen 12 = .ok (.aload 5, 2) := by decide +kernel
theorem dX1_firstFallen_14 : decode cX1_firstFallen 14 = .ok (.iload_n 2, 1) := by decide +kernel
theorem dX1_firstFallen_15 : decode cX1_firstFallen 15 = .ok (.invokevirtual 144, 3) := by decide +kernel
theorem dX1_firstFallen_18 : decode cX1_firstFallen 18 = .ok (.invokestatic 109, 3) := by decide +kernel
theorem dX1_firstFallen_21 : decode cX1_firstFallen 21 = .ok (.iload_n 3, 1) := by decide +kernel
theorem dX1_firstFallen_22 : decode cX1_firstFallen 22 = .ok (.invokestatic 109, 3) := by decide +kernel
theorem dX1_firstFallen_25 : decode cX1_firstFallen 25 = .ok (.if_icmp .eq 5, 3) := by decide +kernel
theorem dX1_firstFallen_28 : decode cX1_firstFallen 28 = .ok (.iload_n 1, 1) := by decide +kernel
theorem dX1_firstFallen_29 : decode cX1_firstFallen 29 = .ok (.ireturn, 1) := by decide +kernel
theorem dX1_firstFallen_30 : decode cX1_firstFallen 30 = .ok (.aload 5, 2) := by decide +kernel
theorem dX1_firstFallen_32 : decode cX1_firstFallen 32 = .ok (.iload_n 2, 1) := by decide +kernel
theorem dX1_firstFallen_33 : decode cX1_firstFallen 33 = .ok (.invokevirtual 144, 3) := by decide +kernel
theorem dX1_firstFallen_36 : decode cX1_firstFallen 36 = .ok (.istore 6, 2) := by decide +kernel
theorem dX1_firstFallen_38 : decode cX1_firstFallen 38 = .ok (.aload 5, 2) := by decide +kernel
theorem dX1_firstFallen_40 : decode cX1_firstFallen 40 = .ok (.iload_n 2, 1) := by decide +kernel
theorem dX1_firstFallen_41 : decode cX1_firstFallen 41 = .ok (.invokevirtual 147, 3) := by decide +kernel
theorem dX1_firstFallen_44 : decode cX1_firstFallen 44 = .ok (.istore 7, 2) := by decide +kernel
theorem dX1_firstFallen_46 : decode cX1_firstFallen 46 = .ok (.aload 5, 2) := by decide +kernel
theorem dX1_firstFallen_48 : decode cX1_firstFallen 48 = .ok (.iload_n 2, 1) := by decide +kernel
theorem dX1_firstFallen_49 : decode cX1_firstFallen 49 = .ok (.iload_n 3, 1) := by decide +kernel
theorem dX1_firstFallen_50 : decode cX1_firstFallen 50 = .ok (.iload 4, 2) := by decide +kernel
theorem dX1_firstFallen_52 : decode cX1_firstFallen 52 = .ok (.invokevirtual 150, 3) := by decide +kernel
theorem dX1_firstFallen_55 : decode cX1_firstFallen 55 = .ok (.aload_n 0, 1) := by decide +kernel
theorem dX1_firstFallen_56 : decode cX1_firstFallen 56 = .ok (.aload_n 0, 1) := by decide +kernel
theorem dX1_firstFallen_57 : decode cX1_firstFallen 57 = .ok (.invokevirtual 138, 3) := by decide +kernel
theorem dX1_firstFallen_60 : decode cX1_firstFallen 60 = .ok (.invokevirtual 153, 3) := by decide +kernel
theorem dX1_firstFallen_63 : decode cX1_firstFallen 63 = .ok (.istore 8, 2) := by decide +kernel
theorem dX1_firstFallen_65 : decode cX1_firstFallen 65 = .ok (.aload 5, 2) := by decide +kernel
theorem dX1_firstFallen_67 : decode cX1_firstFallen 67 = .ok (.iload_n 2, 1) := by decide +kernel
theorem dX1_firstFallen_68 : decode cX1_firstFallen 68 = .ok (.iload 6, 2) := by decide +kernel
theorem dX1_firstFallen_70 : decode cX1_firstFallen 70 = .ok (.iload 7, 2) := by decide +kernel
theorem dX1_firstFallen_72 : decode cX1_firstFallen 72 = .ok (.invokevirtual 150, 3) := by decide +kernel
theorem dX1_firstFallen_75 : decode cX1_firstFallen 75 = .ok (.iload 8, 2) := by decide +kernel
theorem dX1_firstFallen_77 : decode cX1_firstFallen 77 = .ok (.ireturn, 1) := by decide +kernel
theorem dX1_goThrough_0 : decode cX1_goThrough 0 = .ok (.aload_n 0, 1) := by decide +kernel
theorem dX1_goThrough_1 : decode cX1_goThrough 1 = .ok (.getfield 24, 3) := by decide +kernel
theorem dX1_goThrough_4 : decode cX1_goThrough 4 = .ok (.invokevirtual 51, 3) := by decide +kernel
theorem dX1_goThrough_7 : decode cX1_goThrough 7 = .ok (.iconst 0, 1) := by decide +kernel
theorem dX1_goThrough_8 : decode cX1_goThrough 8 = .ok (.istore_n 2, 1) := by decide +kernel
theorem dX1_goThrough_9 : decode cX1_goThrough 9 = .ok (.iload_n 2, 1) := by decide +kernel
theorem dX1_goThrough_10 : decode cX1_goThrough 10 = .ok (.iload_n 1, 1) := by decide +kernel
theorem dX1_goThrough_11 : decode cX1_goThrough 11 = .ok (.if_icmp .ge 47, 3) := by decide +kernel
theorem dX1_goThrough_14 : decode cX1_goThrough 14 = .ok (.iload_n 2, 1) := by decide +kernel
theorem dX1_goThrough_15 : decode cX1_goThrough 15 = .ok (.bipush 60, 2) := by decide +kernel
theorem dX1_goThrough_17 : decode cX1_goThrough 17 = .ok (.if_icmp .ge 41, 3) := by decide +kernel
theorem dX1_goThrough_20 : decode cX1_goThrough 20 = .ok (.aload_n 0, 1) := by decide +kernel
theorem dX1_goThrough_21 : decode cX1_goThrough 21 = .ok (.getfield 11, 3) := by decide +kernel
theorem dX1_goThrough_24 : decode cX1_goThrough 24 = .ok (.iload_n 2, 1) := by decide +kernel
theorem dX1_goThrough_25 : decode cX1_goThrough 25 = .ok (.aaload, 1) := by decide +kernel
theorem dX1_goThrough_26 : decode cX1_goThrough 26 = .ok (.astore_n 3, 1) := by decide +kernel
theorem dX1_goThrough_27 : decode cX1_goThrough 27 = .ok (.aload_n 3, 1) := by decide +kernel
theorem dX1_goThrough_28 : decode cX1_goThrough 28 = .ok (.ifnull 14, 3) := by decide +kernel
theorem dX1_goThrough_31 : decode cX1_goThrough 31 = .ok (.aload_n 0, 1) := by decide +kernel
theorem dX1_goThrough_32 : decode cX1_goThrough 32 = .ok (.getfield 24, 3) := by decide +kernel
theorem dX1_goThrough_35 : decode cX1_goThrough 35 = .ok (.aload_n 3, 1) := by decide +kernel
theorem dX1_goThrough_36 : decode cX1_goThrough 36 = .ok (.invokevirtual 156, 3) := by decide +kernel
theorem dX1_goThrough_39 : decode cX1_goThrough 39 = .ok (.ifCond .ne 5, 3) := by decide +kernel
theorem dX1_goThrough_42 : decode cX1_goThrough 42 = .ok (.iload_n 2, 1) := by decide +kernel
theorem dX1_goThrough_43 : decode cX1_goThrough 43 = .ok (.ireturn, 1) := by decide +kernel
theorem dX1_goThrough_44 : decode cX1_goThrough 44 = .ok (.aload_n 0, 1) := by decide +kernel
theorem dX1_goThrough_45 : decode cX1_goThrough 45 = .ok (.getfield 24, 3) := by decide +kernel
theorem dX1_goThrough_48 : decode cX1_goThrough 48 = .ok (.aload_n 3, 1) := by decide +kernel
theorem dX1_goThrough_49 : decode cX1_goThrough 49 = .ok (.invokevirtual 116, 3) := by decide +kernel
theorem dX1_goThrough_52 : decode cX1_goThrough 52 = .ok (.iinc 2 1, 3) := by decide +kernel
theorem dX1_goThrough_55 : decode cX1_goThrough 55 = .ok (.goto (-46), 3) := by decide +kernel
theorem dX1_goThrough_58 : decode cX1_goThrough 58 = .ok (.iconst (-1), 1) := by decide +kernel
theorem dX1_goThrough_59 : decode cX1_goThrough 59 = .ok (.ireturn, 1) := by decide +kernel
theorem dX1_playAllAnew_0 : decode cX1_playAllAnew 0 = .ok (.aload_n 0, 1) := by decide +kernel
theorem dX1_playAllAnew_1 : decode cX1_playAllAnew 1 = .ok (.getfield 20, 3) := by decide +kernel
theorem dX1_playAllAnew_4 : decode cX1_playAllAnew 4 = .ok (.invokevirtual 51, 3) := by decide +kernel
theorem dX1_playAllAnew_7 : decode cX1_playAllAnew 7 = .ok (.iconst 0, 1) := by decide +kernel
theorem dX1_playAllAnew_8 : decode cX1_playAllAnew 8 = .ok (.istore_n 1, 1) := by decide +kernel
theorem dX1_playAllAnew_9 : decode cX1_playAllAnew 9 = .ok (.iload_n 1, 1) := by decide +kernel
theorem dX1_playAllAnew_10 : decode cX1_playAllAnew 10 = .ok (.aload_n 0, 1) := by decide +kernel
theorem dX1_playAllAnew_11 : decode cX1_playAllAnew 11 = .ok (.getfield 35, 3) := by decide +kernel
theorem dX1_playAllAnew_14 : decode cX1_playAllAnew 14 = .ok (.if_icmp .ge 42, 3) := by decide +kernel
theorem dX1_playAllAnew_17 : decode cX1_playAllAnew 17 = .ok (.iload_n 1, 1) := by decide +kernel
theorem dX1_playAllAnew_18 : decode cX1_playAllAnew 18 = .ok (.bipush 60, 2) := by decide +kernel
theorem dX1_playAllAnew_20 : decode cX1_playAllAnew 20 = .ok (.if_icmp .ge 36, 3) := by decide +kernel
theorem dX1_playAllAnew_23 : decode cX1_playAllAnew 23 = .ok (.aload_n 0, 1) := by decide +kernel
theorem dX1_playAllAnew_24 : decode cX1_playAllAnew 24 = .ok (.getfield 11, 3) := by decide +kernel
theorem dX1_playAllAnew_27 : decode cX1_playAllAnew 27 = .ok (.iload_n 1, 1) := by decide +kernel
theorem dX1_playAllAnew_28 : decode cX1_playAllAnew 28 = .ok (.aaload, 1) := by decide +kernel
theorem dX1_playAllAnew_29 : decode cX1_playAllAnew 29 = .ok (.astore_n 2, 1) := by decide +kernel
theorem dX1_playAllAnew_30 : decode cX1_playAllAnew 30 = .ok (.aload_n 2, 1) := by decide +kernel
theorem dX1_playAllAnew_31 : decode cX1_playAllAnew 31 = .ok (.ifnull 19, 3) := by decide +kernel
theorem dX1_playAllAnew_34 : decode cX1_playAllAnew 34 = .ok (.aload_n 0, 1) := by decide +kernel
theorem dX1_playAllAnew_35 : decode cX1_playAllAnew 35 = .ok (.getfield 20, 3) := by decide +kernel
theorem dX1_playAllAnew_38 : decode cX1_playAllAnew 38 = .ok (.aload_n 2, 1) := by decide +kernel
theorem dX1_playAllAnew_39 : decode cX1_playAllAnew 39 = .ok (.invokevirtual 116, 3) := by decide +kernel
theorem dX1_playAllAnew_42 : decode cX1_playAllAnew 42 = .ok (.aload_n 2, 1) := by decide +kernel
theorem dX1_playAllAnew_43 : decode cX1_playAllAnew 43 = .ok (.aload_n 0, 1) := by decide +kernel
theorem dX1_playAllAnew_44 : decode cX1_playAllAnew 44 = .ok (.getfield 20, 3) := by decide +kernel
theorem dX1_playAllAnew_47 : decode cX1_playAllAnew 47 = .ok (.invokevirtual 120, 3) := by decide +kernel
theorem dX1_playAllAnew_50 : decode cX1_playAllAnew 50 = .ok (.iinc 1 1, 3) := by decide +kernel
theorem dX1_playAllAnew_53 : decode cX1_playAllAnew 53 = .ok (.goto (-44), 3) := by decide +kernel
theorem dX1_playAllAnew_56 : decode cX1_playAllAnew 56 = .ok (.return_, 1) := by decide +kernel
theorem dX1_amend_0 : decode cX1_amend 0 = .ok (.aload_n 0, 1) := by decide +kernel
theorem dX1_amend_1 : decode cX1_amend 1 = .ok (.iload_n 1, 1) := by decide +kernel
theorem dX1_amend_2 : decode cX1_amend 2 = .ok (.invokevirtual 160, 3) := by decide +kernel
theorem dX1_amend_5 : decode cX1_amend 5 = .ok (.istore 6, 2) := by decide +kernel
theorem dX1_amend_7 : decode cX1_amend 7 = .ok (.aload_n 0, 1) := by decide +kernel
theorem dX1_amend_8 : decode cX1_amend 8 = .ok (.iload_n 2, 1) := by decide +kernel
theorem dX1_amend_9 : decode cX1_amend 9 = .ok (.invokevirtual 64, 3) := by decide +kernel
theorem dX1_amend_12 : decode cX1_amend 12 = .ok (.astore 7, 2) := by decide +kernel
theorem dX1_amend_14 : decode cX1_amend 14 = .ok (.aload 7, 2) := by decide +kernel
theorem dX1_amend_16 : decode cX1_amend 16 = .ok (.ifnull 17, 3) := by decide +kernel
theorem dX1_amend_19 : decode cX1_amend 19 = .ok (.aload 7, 2) := by decide +kernel
theorem dX1_amend_21 : decode cX1_amend 21 = .ok (.iload_n 3, 1) := by decide +kernel
theorem dX1_amend_22 : decode cX1_amend 22 = .ok (.iload 4, 2) := by decide +kernel
theorem dX1_amend_24 : decode cX1_amend 24 = .ok (.iload 5, 2) := by decide +kernel
theorem dX1_amend_26 : decode cX1_amend 26 = .ok (.invokevirtual 150, 3) := by decide +kernel
theorem dX1_amend_29 : decode cX1_amend 29 = .ok (.aload_n 0, 1) := by decide +kernel
theorem dX1_amend_30 : decode cX1_amend 30 = .ok (.invokevirtual 163, 3) := by decide +kernel
theorem dX1_amend_33 : decode cX1_amend 33 = .ok (.aload_n 0, 1) := by decide +kernel
theorem dX1_amend_34 : decode cX1_amend 34 = .ok (.iload_n 1, 1) := by decide +kernel
theorem dX1_amend_35 : decode cX1_amend 35 = .ok (.invokevirtual 160, 3) := by decide +kernel
theorem dX1_amend_38 : decode cX1_amend 38 = .ok (.iload 6, 2) := by decide +kernel
theorem dX1_amend_40 : decode cX1_amend 40 = .ok (.isub, 1) := by decide +kernel
theorem dX1_amend_41 : decode cX1_amend 41 = .ok (.istore 8, 2) := by decide +kernel
theorem dX1_amend_43 : decode cX1_amend 43 = .ok (.iload 8, 2) := by decide +kernel
theorem dX1_amend_45 : decode cX1_amend 45 = .ok (.ifCond .gt 15, 3) := by decide +kernel
theorem dX1_amend_48 : decode cX1_amend 48 = .ok (.aload_n 0, 1) := by decide +kernel
theorem dX1_amend_49 : decode cX1_amend 49 = .ok (.dup, 1) := by decide +kernel
theorem dX1_amend_50 : decode cX1_amend 50 = .ok (.getfield 48, 3) := by decide +kernel
theorem dX1_amend_53 : decode cX1_amend 53 = .ok (.iconst 1, 1) := by decide +kernel
theorem dX1_amend_54 : decode cX1_amend 54 = .ok (.iload_n 1, 1) := by decide +kernel
theorem dX1_amend_55 : decode cX1_amend 55 = .ok (.ishl, 1) := by decide +kernel
theorem dX1_amend_56 : decode cX1_amend 56 = .ok (.ior, 1) := by decide +kernel
theorem dX1_amend_57 : decode cX1_amend 57 = .ok (.putfield 48, 3) := by decide +kernel
theorem dX1_amend_60 : decode cX1_amend 60 = .ok (.iload 8, 2) := by decide +kernel
theorem dX1_amend_62 : decode cX1_amend 62 = .ok (.ireturn, 1) := by decide +kernel
theorem dX1_leadOf_0 : decode cX1_leadOf 0 = .ok (.aload_n 0, 1) := by decide +kernel
theorem dX1_leadOf_1 : decode cX1_leadOf 1 = .ok (.iload_n 1, 1) := by decide +kernel
theorem dX1_leadOf_2 : decode cX1_leadOf 2 = .ok (.invokevirtual 112, 3) := by decide +kernel
theorem dX1_leadOf_5 : decode cX1_leadOf 5 = .ok (.aload_n 0, 1) := by decide +kernel
theorem dX1_leadOf_6 : decode cX1_leadOf 6 = .ok (.iconst 1, 1) := by decide +kernel
theorem dX1_leadOf_7 : decode cX1_leadOf 7 = .ok (.iload_n 1, 1) := by decide +kernel
theorem dX1_leadOf_8 : decode cX1_leadOf 8 = .ok (.isub, 1) := by decide +kernel
theorem dX1_leadOf_9 : decode cX1_leadOf 9 = .ok (.invokevirtual 112, 3) := by decide +kernel
theorem dX1_leadOf_12 : decode cX1_leadOf 12 = .ok (.isub, 1) := by decide +kernel
theorem dX1_leadOf_13 : decode cX1_leadOf 13 = .ok (.ireturn, 1) := by decide +kernel
theorem dX1_dropFrom_0 : decode cX1_dropFrom 0 = .ok (.aload_n 0, 1) := by decide +kernel
theorem dX1_dropFrom_1 : decode cX1_dropFrom 1 = .ok (.getfield 35, 3) := by decide +kernel
theorem dX1_dropFrom_4 : decode cX1_dropFrom 4 = .ok (.iload_n 1, 1) := by decide +kernel
theorem dX1_dropFrom_5 : decode cX1_dropFrom 5 = .ok (.isub, 1) := by decide +kernel
theorem dX1_dropFrom_6 : decode cX1_dropFrom 6 = .ok (.istore_n 2, 1) := by decide +kernel
theorem dX1_dropFrom_7 : decode cX1_dropFrom 7 = .ok (.aload_n 0, 1) := by decide +kernel
theorem dX1_dropFrom_8 : decode cX1_dropFrom 8 = .ok (.iload_n 1, 1) := by decide +kernel
theorem dX1_dropFrom_9 : decode cX1_dropFrom 9 = .ok (.putfield 35, 3) := by decide +kernel
theorem dX1_dropFrom_12 : decode cX1_dropFrom 12 = .ok (.aload_n 0, 1) := by decide +kernel
theorem dX1_dropFrom_13 : decode cX1_dropFrom 13 = .ok (.iconst 0, 1) := by decide +kernel
theorem dX1_dropFrom_14 : decode cX1_dropFrom 14 = .ok (.putfield 32, 3) := by decide +kernel
theorem dX1_dropFrom_17 : decode cX1_dropFrom 17 = .ok (.aload_n 0, 1) := by decide +kernel
theorem dX1_dropFrom_18 : decode cX1_dropFrom 18 = .ok (.invokevirtual 163, 3) := by decide +kernel
theorem dX1_dropFrom_21 : decode cX1_dropFrom 21 = .ok (.iload_n 2, 1) := by decide +kernel
theorem dX1_dropFrom_22 : decode cX1_dropFrom 22 = .ok (.ireturn, 1) := by decide +kernel
theorem dX1_sideNow_0 : decode cX1_sideNow 0 = .ok (.aload_n 0, 1) := by decide +kernel
theorem dX1_sideNow_1 : decode cX1_sideNow 1 = .ok (.getfield 20, 3) := by decide +kernel
theorem dX1_sideNow_4 : decode cX1_sideNow 4 = .ok (.iload_n 1, 1) := by decide +kernel
theorem dX1_sideNow_5 : decode cX1_sideNow 5 = .ok (.invokevirtual 79, 3) := by decide +kernel
theorem dX1_sideNow_8 : decode cX1_sideNow 8 = .ok (.areturn, 1) := by decide +kernel
theorem dX1_pointsOf_0 : decode cX1_pointsOf 0 = .ok (.aload_n 0, 1) := by decide +kernel
theorem dX1_pointsOf_1 : decode cX1_pointsOf 1 = .ok (.getfield 20, 3) := by decide +kernel
theorem dX1_pointsOf_4 : decode cX1_pointsOf 4 = .ok (.iload_n 1, 1) := by decide +kernel
theorem dX1_pointsOf_5 : decode cX1_pointsOf 5 = .ok (.invokevirtual 79, 3) := by decide +kernel
theorem dX1_pointsOf_8 : decode cX1_pointsOf 8 = .ok (.getfield 166, 3) := by decide +kernel
theorem dX1_pointsOf_11 : decode cX1_pointsOf 11 = .ok (.ireturn, 1) := by decide +kernel
theorem dX1_clubOf_0 : decode cX1_clubOf 0 = .ok (.iload_n 1, 1) := by decide +kernel
theorem dX1_clubOf_1 : decode cX1_clubOf 1 = .ok (.ifCond .ne 10, 3) := by decide +kernel
theorem dX1_clubOf_4 : decode cX1_clubOf 4 = .ok (.aload_n 0, 1) := by decide +kernel
theorem dX1_clubOf_5 : decode cX1_clubOf 5 = .ok (.getfield 39, 3) := by decide +kernel
theorem dX1_clubOf_8 : decode cX1_clubOf 8 = .ok (.goto 7, 3) := by decide +kernel
theorem dX1_clubOf_11 : decode cX1_clubOf 11 = .ok (.aload_n 0, 1) := by decide +kernel
theorem dX1_clubOf_12 : decode cX1_clubOf 12 = .ok (.getfield 42, 3) := by decide +kernel
theorem dX1_clubOf_15 : decode cX1_clubOf 15 = .ok (.ireturn, 1) := by decide +kernel
theorem dX1_tellOf_0 : decode cX1_tellOf 0 = .ok (.iload_n 1, 1) := by decide +kernel
theorem dX1_tellOf_1 : decode cX1_tellOf 1 = .ok (.tableswitch 102 0 5 #[39, 47, 55, 60, 73, 89], 39) := by decide +kernel
theorem dX1_tellOf_40 : decode cX1_tellOf 40 = .ok (.aload_n 0, 1) := by decide +kernel
theorem dX1_tellOf_41 : decode cX1_tellOf 41 = .ok (.getfield 20, 3) := by decide +kernel
theorem dX1_tellOf_44 : decode cX1_tellOf 44 = .ok (.getfield 61, 3) := by decide +kernel
theorem dX1_tellOf_47 : decode cX1_tellOf 47 = .ok (.ireturn, 1) := by decide +kernel
theorem dX1_tellOf_48 : decode cX1_tellOf 48 = .ok (.aload_n 0, 1) := by decide +kernel
theorem dX1_tellOf_49 : decode cX1_tellOf 49 = .ok (.getfield 20, 3) := by decide +kernel
theorem dX1_tellOf_52 : decode cX1_tellOf 52 = .ok (.invokevirtual 75, 3) := by decide +kernel
theorem dX1_tellOf_55 : decode cX1_tellOf 55 = .ok (.ireturn, 1) := by decide +kernel
theorem dX1_tellOf_56 : decode cX1_tellOf 56 = .ok (.aload_n 0, 1) := by decide +kernel
theorem dX1_tellOf_57 : decode cX1_tellOf 57 = .ok (.getfield 35, 3) := by decide +kernel
theorem dX1_tellOf_60 : decode cX1_tellOf 60 = .ok (.ireturn, 1) := by decide +kernel
theorem dX1_tellOf_61 : decode cX1_tellOf 61 = .ok (.aload_n 0, 1) := by decide +kernel
theorem dX1_tellOf_62 : decode cX1_tellOf 62 = .ok (.getfield 32, 3) := by decide +kernel
theorem dX1_tellOf_65 : decode cX1_tellOf 65 = .ok (.ifCond .eq 7, 3) := by decide +kernel
theorem dX1_tellOf_68 : decode cX1_tellOf 68 = .ok (.iconst 1, 1) := by decide +kernel
theorem dX1_tellOf_69 : decode cX1_tellOf 69 = .ok (.goto 4, 3) := by decide +kernel
theorem dX1_tellOf_72 : decode cX1_tellOf 72 = .ok (.iconst 0, 1) := by decide +kernel
theorem dX1_tellOf_73 : decode cX1_tellOf 73 = .ok (.ireturn, 1) := by decide +kernel
theorem dX1_tellOf_74 : decode cX1_tellOf 74 = .ok (.aload_n 0, 1) := by decide +kernel
theorem dX1_tellOf_75 : decode cX1_tellOf 75 = .ok (.getfield 20, 3) := by decide +kernel
theorem dX1_tellOf_78 : decode cX1_tellOf 78 = .ok (.invokevirtual 169, 3) := by decide +kernel
theorem dX1_tellOf_81 : decode cX1_tellOf 81 = .ok (.ifCond .eq 7, 3) := by decide +kernel
theorem dX1_tellOf_84 : decode cX1_tellOf 84 = .ok (.iconst 1, 1) := by decide +kernel
theorem dX1_tellOf_85 : decode cX1_tellOf 85 = .ok (.goto 4, 3) := by decide +kernel
theorem dX1_tellOf_88 : decode cX1_tellOf 88 = .ok (.iconst 0, 1) := by decide +kernel
theorem dX1_tellOf_89 : decode cX1_tellOf 89 = .ok (.ireturn, 1) := by decide +kernel
theorem dX1_tellOf_90 : decode cX1_tellOf 90 = .ok (.aload_n 0, 1) := by decide +kernel
theorem dX1_tellOf_91 : decode cX1_tellOf 91 = .ok (.invokevirtual 172, 3) := by decide +kernel
theorem dX1_tellOf_94 : decode cX1_tellOf 94 = .ok (.ifCond .eq 7, 3) := by decide +kernel
theorem dX1_tellOf_97 : decode cX1_tellOf 97 = .ok (.iconst 1, 1) := by decide +kernel
theorem dX1_tellOf_98 : decode cX1_tellOf 98 = .ok (.goto 4, 3) := by decide +kernel
theorem dX1_tellOf_101 : decode cX1_tellOf 101 = .ok (.iconst 0, 1) := by decide +kernel
theorem dX1_tellOf_102 : decode cX1_tellOf 102 = .ok (.ireturn, 1) := by decide +kernel
theorem dX1_tellOf_103 : decode cX1_tellOf 103 = .ok (.aload_n 0, 1) := by decide +kernel
theorem dX1_tellOf_104 : decode cX1_tellOf 104 = .ok (.iload_n 1, 1) := by decide +kernel
theorem dX1_tellOf_105 : decode cX1_tellOf 105 = .ok (.bipush 6, 2) := by decide +kernel
theorem dX1_tellOf_107 : decode cX1_tellOf 107 = .ok (.isub, 1) := by decide +kernel
theorem dX1_tellOf_108 : decode cX1_tellOf 108 = .ok (.invokevirtual 175, 3) := by decide +kernel
theorem dX1_tellOf_111 : decode cX1_tellOf 111 = .ok (.ireturn, 1) := by decide +kernel
theorem dX1_onAfter_0 : decode cX1_onAfter 0 = .ok (.aload_n 0, 1) := by decide +kernel
theorem dX1_onAfter_1 : decode cX1_onAfter 1 = .ok (.iload_n 1, 1) := by decide +kernel
theorem dX1_onAfter_2 : decode cX1_onAfter 2 = .ok (.invokevirtual 64, 3) := by decide +kernel
theorem dX1_onAfter_5 : decode cX1_onAfter 5 = .ok (.astore_n 3, 1) := by decide +kernel
theorem dX1_onAfter_6 : decode cX1_onAfter 6 = .ok (.aload_n 3, 1) := by decide +kernel
theorem dX1_onAfter_7 : decode cX1_onAfter 7 = .ok (.ifnonnull 7, 3) := by decide +kernel
theorem dX1_onAfter_10 : decode cX1_onAfter 10 = .ok (.iconst 0, 1) := by decide +kernel
theorem dX1_onAfter_11 : decode cX1_onAfter 11 = .ok (.goto 8, 3) := by decide +kernel
theorem dX1_onAfter_14 : decode cX1_onAfter 14 = .ok (.aload_n 3, 1) := by decide +kernel
theorem dX1_onAfter_15 : decode cX1_onAfter 15 = .ok (.iload_n 2, 1) := by decide +kernel
theorem dX1_onAfter_16 : decode cX1_onAfter 16 = .ok (.invokevirtual 178, 3) := by decide +kernel
theorem dX1_onAfter_19 : decode cX1_onAfter 19 = .ok (.ireturn, 1) := by decide +kernel
theorem dX1_onAnew_0 : decode cX1_onAnew 0 = .ok (.aload_n 0, 1) := by decide +kernel
theorem dX1_onAnew_1 : decode cX1_onAnew 1 = .ok (.iload_n 1, 1) := by decide +kernel
theorem dX1_onAnew_2 : decode cX1_onAnew 2 = .ok (.iconst 1, 1) := by decide +kernel
theorem dX1_onAnew_3 : decode cX1_onAnew 3 = .ok (.iadd, 1) := by decide +kernel
theorem dX1_onAnew_4 : decode cX1_onAnew 4 = .ok (.invokevirtual 153, 3) := by decide +kernel
theorem dX1_onAnew_7 : decode cX1_onAnew 7 = .ok (.pop, 1) := by decide +kernel
theorem dX1_onAnew_8 : decode cX1_onAnew 8 = .ok (.aload_n 0, 1) := by decide +kernel
theorem dX1_onAnew_9 : decode cX1_onAnew 9 = .ok (.getfield 24, 3) := by decide +kernel
theorem dX1_onAnew_12 : decode cX1_onAnew 12 = .ok (.iload_n 2, 1) := by decide +kernel
theorem dX1_onAnew_13 : decode cX1_onAnew 13 = .ok (.invokevirtual 79, 3) := by decide +kernel
theorem dX1_onAnew_16 : decode cX1_onAnew 16 = .ok (.invokevirtual 181, 3) := by decide +kernel
theorem dX1_onAnew_19 : decode cX1_onAnew 19 = .ok (.ireturn, 1) := by decide +kernel
theorem dX1_pointsBehind_0 : decode cX1_pointsBehind 0 = .ok (.aload_n 0, 1) := by decide +kernel
theorem dX1_pointsBehind_1 : decode cX1_pointsBehind 1 = .ok (.iload_n 1, 1) := by decide +kernel
theorem dX1_pointsBehind_2 : decode cX1_pointsBehind 2 = .ok (.invokevirtual 64, 3) := by decide +kernel
theorem dX1_pointsBehind_5 : decode cX1_pointsBehind 5 = .ok (.astore_n 3, 1) := by decide +kernel
theorem dX1_pointsBehind_6 : decode cX1_pointsBehind 6 = .ok (.aload_n 3, 1) := by decide +kernel
theorem dX1_pointsBehind_7 : decode cX1_pointsBehind 7 = .ok (.ifnonnull 7, 3) := by decide +kernel
theorem dX1_pointsBehind_10 : decode cX1_pointsBehind 10 = .ok (.iconst 0, 1) := by decide +kernel
theorem dX1_pointsBehind_11 : decode cX1_pointsBehind 11 = .ok (.goto 8, 3) := by decide +kernel
theorem dX1_pointsBehind_14 : decode cX1_pointsBehind 14 = .ok (.aload_n 3, 1) := by decide +kernel
theorem dX1_pointsBehind_15 : decode cX1_pointsBehind 15 = .ok (.iload_n 2, 1) := by decide +kernel
theorem dX1_pointsBehind_16 : decode cX1_pointsBehind 16 = .ok (.invokevirtual 184, 3) := by decide +kernel
theorem dX1_pointsBehind_19 : decode cX1_pointsBehind 19 = .ok (.ireturn, 1) := by decide +kernel
theorem dX2_init_0 : decode cX2_init 0 = .ok (.aload_n 0, 1) := by decide +kernel
theorem dX2_init_1 : decode cX2_init 1 = .ok (.invokespecial 3, 3) := by decide +kernel
theorem dX2_init_4 : decode cX2_init 4 = .ok (.aload_n 0, 1) := by decide +kernel
theorem dX2_init_5 : decode cX2_init 5 = .ok (.bipush 10, 2) := by decide +kernel
theorem dX2_init_7 : decode cX2_init 7 = .ok (.newarray .int, 2) := by decide +kernel
theorem dX2_init_9 : decode cX2_init 9 = .ok (.putfield 9, 3) := by decide +kernel
theorem dX2_init_12 : decode cX2_init 12 = .ok (.aload_n 0, 1) := by decide +kernel
theorem dX2_init_13 : decode cX2_init 13 = .ok (.bipush 10, 2) := by decide +kernel
theorem dX2_init_15 : decode cX2_init 15 = .ok (.newarray .int, 2) := by decide +kernel
theorem dX2_init_17 : decode cX2_init 17 = .ok (.putfield 15, 3) := by decide +kernel
theorem dX2_init_20 : decode cX2_init 20 = .ok (.aload_n 0, 1) := by decide +kernel
theorem dX2_init_21 : decode cX2_init 21 = .ok (.bipush 10, 2) := by decide +kernel
theorem dX2_init_23 : decode cX2_init 23 = .ok (.newarray .int, 2) := by decide +kernel
theorem dX2_init_25 : decode cX2_init 25 = .ok (.putfield 18, 3) := by decide +kernel
theorem dX2_init_28 : decode cX2_init 28 = .ok (.aload_n 0, 1) := by decide +kernel
theorem dX2_init_29 : decode cX2_init 29 = .ok (.iconst 2, 1) := by decide +kernel
theorem dX2_init_30 : decode cX2_init 30 = .ok (.newarray .int, 2) := by decide +kernel
theorem dX2_init_32 : decode cX2_init 32 = .ok (.putfield 21, 3) := by decide +kernel
theorem dX2_init_35 : decode cX2_init 35 = .ok (.aload_n 0, 1) := by decide +kernel
theorem dX2_init_36 : decode cX2_init 36 = .ok (.iconst 2, 1) := by decide +kernel
theorem dX2_init_37 : decode cX2_init 37 = .ok (.newarray .int, 2) := by decide +kernel
theorem dX2_init_39 : decode cX2_init 39 = .ok (.putfield 24, 3) := by decide +kernel
theorem dX2_init_42 : decode cX2_init 42 = .ok (.return_, 1) := by decide +kernel
theorem dX2_fill_0 : decode cX2_fill 0 = .ok (.aload_n 0, 1) := by decide +kernel
theorem dX2_fill_1 : decode cX2_fill 1 = .ok (.iload_n 1, 1) := by decide +kernel
theorem dX2_fill_2 : decode cX2_fill 2 = .ok (.putfield 27, 3) := by decide +kernel
theorem dX2_fill_5 : decode cX2_fill 5 = .ok (.aload_n 0, 1) := by decide +kernel
theorem dX2_fill_6 : decode cX2_fill 6 = .ok (.iload_n 2, 1) := by decide +kernel
theorem dX2_fill_7 : decode cX2_fill 7 = .ok (.putfield 31, 3) := by decide +kernel
theorem dX2_fill_10 : decode cX2_fill 10 = .ok (.aload_n 0, 1) := by decide +kernel
theorem dX2_fill_11 : decode cX2_fill 11 = .ok (.iload_n 3, 1) := by decide +kernel
theorem dX2_fill_12 : decode cX2_fill 12 = .ok (.putfield 34, 3) := by decide +kernel
theorem dX2_fill_15 : decode cX2_fill 15 = .ok (.aload_n 0, 1) := by decide +kernel
theorem dX2_fill_16 : decode cX2_fill 16 = .ok (.iload 4, 2) := by decide +kernel
theorem dX2_fill_18 : decode cX2_fill 18 = .ok (.putfield 37, 3) := by decide +kernel
theorem dX2_fill_21 : decode cX2_fill 21 = .ok (.aload_n 0, 1) := by decide +kernel
theorem dX2_fill_22 : decode cX2_fill 22 = .ok (.iconst 0, 1) := by decide +kernel
theorem dX2_fill_23 : decode cX2_fill 23 = .ok (.putfield 40, 3) := by decide +kernel
theorem dX2_fill_26 : decode cX2_fill 26 = .ok (.return_, 1) := by decide +kernel
theorem dX2_isRaid_0 : decode cX2_isRaid 0 = .ok (.aload_n 0, 1) := by decide +kernel
theorem dX2_isRaid_1 : decode cX2_isRaid 1 = .ok (.getfield 27, 3) := by decide +kernel
theorem dX2_isRaid_4 : decode cX2_isRaid 4 = .ok (.ifCond .ne 7, 3) := by decide +kernel
theorem dX2_isRaid_7 : decode cX2_isRaid 7 = .ok (.iconst 1, 1) := by decide +kernel
theorem dX2_isRaid_8 : decode cX2_isRaid 8 = .ok (.goto 4, 3) := by decide +kernel
theorem dX2_isRaid_11 : decode cX2_isRaid 11 = .ok (.iconst 0, 1) := by decide +kernel
theorem dX2_isRaid_12 : decode cX2_isRaid 12 = .ok (.ireturn, 1) := by decide +kernel
theorem dX2_isPlace_0 : decode cX2_isPlace 0 = .ok (.iload_n 1, 1) := by decide +kernel
theorem dX2_isPlace_1 : decode cX2_isPlace 1 = .ok (.ifCond .lt 21, 3) := by decide +kernel
theorem dX2_isPlace_4 : decode cX2_isPlace 4 = .ok (.iload_n 1, 1) := by decide +kernel
theorem dX2_isPlace_5 : decode cX2_isPlace 5 = .ok (.aload_n 0, 1) := by decide +kernel
theorem dX2_isPlace_6 : decode cX2_isPlace 6 = .ok (.getfield 40, 3) := by decide +kernel
theorem dX2_isPlace_9 : decode cX2_isPlace 9 = .ok (.if_icmp .ge 13, 3) := by decide +kernel
theorem dX2_isPlace_12 : decode cX2_isPlace 12 = .ok (.iload_n 1, 1) := by decide +kernel
theorem dX2_isPlace_13 : decode cX2_isPlace 13 = .ok (.bipush 10, 2) := by decide +kernel
theorem dX2_isPlace_15 : decode cX2_isPlace 15 = .ok (.if_icmp .ge 7, 3) := by decide +kernel
theorem dX2_isPlace_18 : decode cX2_isPlace 18 = .ok (.iconst 1, 1) := by decide +kernel
theorem dX2_isPlace_19 : decode cX2_isPlace 19 = .ok (.goto 4, 3) := by decide +kernel
theorem dX2_isPlace_22 : decode cX2_isPlace 22 = .ok (.iconst 0, 1) := by decide +kernel
theorem dX2_isPlace_23 : decode cX2_isPlace 23 = .ok (.ireturn, 1) := by decide +kernel
theorem dX2_kindAt_0 : decode cX2_kindAt 0 = .ok (.aload_n 0, 1) := by decide +kernel
theorem dX2_kindAt_1 : decode cX2_kindAt 1 = .ok (.iload_n 1, 1) := by decide +kernel
theorem dX2_kindAt_2 : decode cX2_kindAt 2 = .ok (.invokevirtual 43, 3) := by decide +kernel
theorem dX2_kindAt_5 : decode cX2_kindAt 5 = .ok (.ifCond .eq 12, 3) := by decide +kernel
theorem dX2_kindAt_8 : decode cX2_kindAt 8 = .ok (.aload_n 0, 1) := by decide +kernel
theorem dX2_kindAt_9 : decode cX2_kindAt 9 = .ok (.getfield 9, 3) := by decide +kernel
theorem dX2_kindAt_12 : decode cX2_kindAt 12 = .ok (.iload_n 1, 1) := by decide +kernel
theorem dX2_kindAt_13 : decode cX2_kindAt 13 = .ok (.iaload, 1) := by decide +kernel
theorem dX2_kindAt_14 : decode cX2_kindAt 14 = .ok (.goto 4, 3) := by decide +kernel
theorem dX2_kindAt_17 : decode cX2_kindAt 17 = .ok (.iconst (-1), 1) := by decide +kernel
theorem dX2_kindAt_18 : decode cX2_kindAt 18 = .ok (.ireturn, 1) := by decide +kernel
theorem dX2_whoAt_0 : decode cX2_whoAt 0 = .ok (.aload_n 0, 1) := by decide +kernel
theorem dX2_whoAt_1 : decode cX2_whoAt 1 = .ok (.iload_n 1, 1) := by decide +kernel
theorem dX2_whoAt_2 : decode cX2_whoAt 2 = .ok (.invokevirtual 43, 3) := by decide +kernel
theorem dX2_whoAt_5 : decode cX2_whoAt 5 = .ok (.ifCond .eq 12, 3) := by decide +kernel
theorem dX2_whoAt_8 : decode cX2_whoAt 8 = .ok (.aload_n 0, 1) := by decide +kernel
theorem dX2_whoAt_9 : decode cX2_whoAt 9 = .ok (.getfield 15, 3) := by decide +kernel
theorem dX2_whoAt_12 : decode cX2_whoAt 12 = .ok (.iload_n 1, 1) := by decide +kernel
theorem dX2_whoAt_13 : decode cX2_whoAt 13 = .ok (.iaload, 1) := by decide +kernel
theorem dX2_whoAt_14 : decode cX2_whoAt 14 = .ok (.goto 4, 3) := by decide +kernel
theorem dX2_whoAt_17 : decode cX2_whoAt 17 = .ok (.iconst (-1), 1) := by decide +kernel
theorem dX2_whoAt_18 : decode cX2_whoAt 18 = .ok (.ireturn, 1) := by decide +kernel
theorem dX2_tenthAt_0 : decode cX2_tenthAt 0 = .ok (.aload_n 0, 1) := by decide +kernel
theorem dX2_tenthAt_1 : decode cX2_tenthAt 1 = .ok (.iload_n 1, 1) := by decide +kernel
theorem dX2_tenthAt_2 : decode cX2_tenthAt 2 = .ok (.invokevirtual 43, 3) := by decide +kernel
theorem dX2_tenthAt_5 : decode cX2_tenthAt 5 = .ok (.ifCond .eq 12, 3) := by decide +kernel
theorem dX2_tenthAt_8 : decode cX2_tenthAt 8 = .ok (.aload_n 0, 1) := by decide +kernel
theorem dX2_tenthAt_9 : decode cX2_tenthAt 9 = .ok (.getfield 18, 3) := by decide +kernel
theorem dX2_tenthAt_12 : decode cX2_tenthAt 12 = .ok (.iload_n 1, 1) := by decide +kernel
theorem dX2_tenthAt_13 : decode cX2_tenthAt 13 = .ok (.iaload, 1) := by decide +kernel
theorem dX2_tenthAt_14 : decode cX2_tenthAt 14 = .ok (.goto 4, 3) := by decide +kernel
theorem dX2_tenthAt_17 : decode cX2_tenthAt 17 = .ok (.iconst 0, 1) := by decide +kernel
theorem dX2_tenthAt_18 : decode cX2_tenthAt 18 = .ok (.ireturn, 1) := by decide +kernel
theorem dX2_add_0 : decode cX2_add 0 = .ok (.aload_n 0, 1) := by decide +kernel
theorem dX2_add_1 : decode cX2_add 1 = .ok (.getfield 40, 3) := by decide +kernel
theorem dX2_add_4 : decode cX2_add 4 = .ok (.ifCond .lt 52, 3) := by decide +kernel
theorem dX2_add_7 : decode cX2_add 7 = .ok (.aload_n 0, 1) := by decide +kernel
theorem dX2_add_8 : decode cX2_add 8 = .ok (.getfield 40, 3) := by decide +kernel
theorem dX2_add_11 : decode cX2_add 11 = .ok (.bipush 10, 2) := by decide +kernel
theorem dX2_add_13 : decode cX2_add 13 = .ok (.if_icmp .ge 43, 3) := by decide +kernel
theorem dX2_add_16 : decode cX2_add 16 = .ok (.aload_n 0, 1) := by decide +kernel
theorem dX2_add_17 : decode cX2_add 17 = .ok (.getfield 9, 3) := by decide +kernel
theorem dX2_add_20 : decode cX2_add 20 = .ok (.aload_n 0, 1) := by decide +kernel
theorem dX2_add_21 : decode cX2_add 21 = .ok (.getfield 40, 3) := by decide +kernel
theorem dX2_add_24 : decode cX2_add 24 = .ok (.iload_n 1, 1) := by decide +kernel
theorem dX2_add_25 : decode cX2_add 25 = .ok (.iastore, 1) := by decide +kernel
theorem dX2_add_26 : decode cX2_add 26 = .ok (.aload_n 0, 1) := by decide +kernel
theorem dX2_add_27 : decode cX2_add 27 = .ok (.getfield 15, 3) := by decide +kernel
theorem dX2_add_30 : decode cX2_add 30 = .ok (.aload_n 0, 1) := by decide +kernel
theorem dX2_add_31 : decode cX2_add 31 = .ok (.getfield 40, 3) := by decide +kernel
theorem dX2_add_34 : decode cX2_add 34 = .ok (.iload_n 2, 1) := by decide +kernel
theorem dX2_add_35 : decode cX2_add 35 = .ok (.iastore, 1) := by decide +kernel
theorem dX2_add_36 : decode cX2_add 36 = .ok (.aload_n 0, 1) := by decide +kernel
theorem dX2_add_37 : decode cX2_add 37 = .ok (.getfield 18, 3) := by decide +kernel
theorem dX2_add_40 : decode cX2_add 40 = .ok (.aload_n 0, 1) := by decide +kernel
theorem dX2_add_41 : decode cX2_add 41 = .ok (.getfield 40, 3) := by decide +kernel
theorem dX2_add_44 : decode cX2_add 44 = .ok (.iload_n 3, 1) := by decide +kernel
theorem dX2_add_45 : decode cX2_add 45 = .ok (.iastore, 1) := by decide +kernel
theorem dX2_add_46 : decode cX2_add 46 = .ok (.aload_n 0, 1) := by decide +kernel
theorem dX2_add_47 : decode cX2_add 47 = .ok (.dup, 1) := by decide +kernel
theorem dX2_add_48 : decode cX2_add 48 = .ok (.getfield 40, 3) := by decide +kernel
theorem dX2_add_51 : decode cX2_add 51 = .ok (.iconst 1, 1) := by decide +kernel
theorem dX2_add_52 : decode cX2_add 52 = .ok (.iadd, 1) := by decide +kernel
theorem dX2_add_53 : decode cX2_add 53 = .ok (.putfield 40, 3) := by decide +kernel
theorem dX2_add_56 : decode cX2_add 56 = .ok (.return_, 1) := by decide +kernel
theorem dX2_correct_0 : decode cX2_correct 0 = .ok (.aload_n 0, 1) := by decide +kernel
theorem dX2_correct_1 : decode cX2_correct 1 = .ok (.iload_n 1, 1) := by decide +kernel
theorem dX2_correct_2 : decode cX2_correct 2 = .ok (.invokevirtual 43, 3) := by decide +kernel
theorem dX2_correct_5 : decode cX2_correct 5 = .ok (.ifCond .eq 17, 3) := by decide +kernel
theorem dX2_correct_8 : decode cX2_correct 8 = .ok (.aload_n 0, 1) := by decide +kernel
theorem dX2_correct_9 : decode cX2_correct 9 = .ok (.getfield 9, 3) := by decide +kernel
theorem dX2_correct_12 : decode cX2_correct 12 = .ok (.iload_n 1, 1) := by decide +kernel
theorem dX2_correct_13 : decode cX2_correct 13 = .ok (.iload_n 2, 1) := by decide +kernel
theorem dX2_correct_14 : decode cX2_correct 14 = .ok (.iastore, 1) := by decide +kernel
theorem dX2_correct_15 : decode cX2_correct 15 = .ok (.aload_n 0, 1) := by decide +kernel
theorem dX2_correct_16 : decode cX2_correct 16 = .ok (.getfield 15, 3) := by decide +kernel
theorem dX2_correct_19 : decode cX2_correct 19 = .ok (.iload_n 1, 1) := by decide +kernel
theorem dX2_correct_20 : decode cX2_correct 20 = .ok (.iload_n 3, 1) := by decide +kernel
theorem dX2_correct_21 : decode cX2_correct 21 = .ok (.iastore, 1) := by decide +kernel
theorem dX2_correct_22 : decode cX2_correct 22 = .ok (.return_, 1) := by decide +kernel
theorem dX2_hasAmongFirst_0 : decode cX2_hasAmongFirst 0 = .ok (.iconst 0, 1) := by decide +kernel
theorem dX2_hasAmongFirst_1 : decode cX2_hasAmongFirst 1 = .ok (.istore 4, 2) := by decide +kernel
theorem dX2_hasAmongFirst_3 : decode cX2_hasAmongFirst 3 = .ok (.iload 4, 2) := by decide +kernel
theorem dX2_hasAmongFirst_5 : decode cX2_hasAmongFirst 5 = .ok (.iload_n 1, 1) := by decide +kernel
theorem dX2_hasAmongFirst_6 : decode cX2_hasAmongFirst 6 = .ok (.if_icmp .ge 40, 3) := by decide +kernel
theorem dX2_hasAmongFirst_9 : decode cX2_hasAmongFirst 9 = .ok (.iload 4, 2) := by decide +kernel
theorem dX2_hasAmongFirst_11 : decode cX2_hasAmongFirst 11 = .ok (.bipush 10, 2) := by decide +kernel
theorem dX2_hasAmongFirst_13 : decode cX2_hasAmongFirst 13 = .ok (.if_icmp .ge 33, 3) := by decide +kernel
theorem dX2_hasAmongFirst_16 : decode cX2_hasAmongFirst 16 = .ok (.aload_n 0, 1) := by decide +kernel
theorem dX2_hasAmongFirst_17 : decode cX2_hasAmongFirst 17 = .ok (.getfield 9, 3) := by decide +kernel
theorem dX2_hasAmongFirst_20 : decode cX2_hasAmongFirst 20 = .ok (.iload 4, 2) := by decide +kernel
theorem dX2_hasAmongFirst_22 : decode cX2_hasAmongFirst 22 = .ok (.iaload, 1) := by decide +kernel
theorem dX2_hasAmongFirst_23 : decode cX2_hasAmongFirst 23 = .ok (.iload_n 2, 1) := by decide +kernel
theorem dX2_hasAmongFirst_24 : decode cX2_hasAmongFirst 24 = .ok (.if_icmp .ne 16, 3) := by decide +kernel
theorem dX2_hasAmongFirst_27 : decode cX2_hasAmongFirst 27 = .ok (.aload_n 0, 1) := by decide +kernel
theorem dX2_hasAmongFirst_28 : decode cX2_hasAmongFirst 28 = .ok (.getfield 15, 3) := by decide +kernel
theorem dX2_hasAmongFirst_31 : decode cX2_hasAmongFirst 31 = .ok (.iload 4, 2) := by decide +kernel
theorem dX2_hasAmongFirst_33 : decode cX2_hasAmongFirst 33 = .ok (.iaload, 1) := by decide +kernel
theorem dX2_hasAmongFirst_34 : decode cX2_hasAmongFirst 34 = .ok (.iload_n 3, 1) := by decide +kernel
theorem dX2_hasAmongFirst_35 : decode cX2_hasAmongFirst 35 = .ok (.if_icmp .ne 5, 3) := by decide +kernel
theorem dX2_hasAmongFirst_38 : decode cX2_hasAmongFirst 38 = .ok (.iconst 1, 1) := by decide +kernel
theorem dX2_hasAmongFirst_39 : decode cX2_hasAmongFirst 39 = .ok (.ireturn, 1) := by decide +kernel
theorem dX2_hasAmongFirst_40 : decode cX2_hasAmongFirst 40 = .ok (.iinc 4 1, 3) := by decide +kernel
theorem dX2_hasAmongFirst_43 : decode cX2_hasAmongFirst 43 = .ok (.goto (-40), 3) := by decide +kernel
theorem dX2_hasAmongFirst_46 : decode cX2_hasAmongFirst 46 = .ok (.iconst 0, 1) := by decide +kernel
theorem dX2_hasAmongFirst_47 : decode cX2_hasAmongFirst 47 = .ok (.ireturn, 1) := by decide +kernel
theorem dX2_has_0 : decode cX2_has 0 = .ok (.aload_n 0, 1) := by decide +kernel
theorem dX2_has_1 : decode cX2_has 1 = .ok (.aload_n 0, 1) := by decide +kernel
theorem dX2_has_2 : decode cX2_has 2 = .ok (.getfield 40, 3) := by decide +kernel
theorem dX2_has_5 : decode cX2_has 5 = .ok (.iload_n 1, 1) := by decide +kernel
theorem dX2_has_6 : decode cX2_has 6 = .ok (.iconst (-1), 1) := by decide +kernel
theorem dX2_has_7 : decode cX2_has 7 = .ok (.invokevirtual 47, 3) := by decide +kernel
theorem dX2_has_10 : decode cX2_has 10 = .ok (.ireturn, 1) := by decide +kernel
theorem dX2_countTouches_0 : decode cX2_countTouches 0 = .ok (.iconst 0, 1) := by decide +kernel
theorem dX2_countTouches_1 : decode cX2_countTouches 1 = .ok (.istore_n 1, 1) := by decide +kernel
theorem dX2_countTouches_2 : decode cX2_countTouches 2 = .ok (.iconst 0, 1) := by decide +kernel
theorem dX2_countTouches_3 : decode cX2_countTouches 3 = .ok (.istore_n 2, 1) := by decide +kernel
theorem dX2_countTouches_4 : decode cX2_countTouches 4 = .ok (.iload_n 2, 1) := by decide +kernel
theorem dX2_countTouches_5 : decode cX2_countTouches 5 = .ok (.aload_n 0, 1) := by decide +kernel
theorem dX2_countTouches_6 : decode cX2_countTouches 6 = .ok (.getfield 40, 3) := by decide +kernel
theorem dX2_countTouches_9 : decode cX2_countTouches 9 = .ok (.if_icmp .ge 27, 3) := by decide +kernel
theorem dX2_countTouches_12 : decode cX2_countTouches 12 = .ok (.iload_n 2, 1) := by decide +kernel
theorem dX2_countTouches_13 : decode cX2_countTouches 13 = .ok (.bipush 10, 2) := by decide +kernel
theorem dX2_countTouches_15 : decode cX2_countTouches 15 = .ok (.if_icmp .ge 21, 3) := by decide +kernel
theorem dX2_countTouches_18 : decode cX2_countTouches 18 = .ok (.aload_n 0, 1) := by decide +kernel
theorem dX2_countTouches_19 : decode cX2_countTouches 19 = .ok (.getfield 9, 3) := by decide +kernel
theorem dX2_countTouches_22 : decode cX2_countTouches 22 = .ok (.iload_n 2, 1) := by decide +kernel
theorem dX2_countTouches_23 : decode cX2_countTouches 23 = .ok (.iaload, 1) := by decide +kernel
theorem dX2_countTouches_24 : decode cX2_countTouches 24 = .ok (.ifCond .ne 6, 3) := by decide +kernel
theorem dX2_countTouches_27 : decode cX2_countTouches 27 = .ok (.iinc 1 1, 3) := by decide +kernel
theorem dX2_countTouches_30 : decode cX2_countTouches 30 = .ok (.iinc 2 1, 3) := by decide +kernel
theorem dX2_countTouches_33 : decode cX2_countTouches 33 = .ok (.goto (-29), 3) := by decide +kernel
theorem dX2_countTouches_36 : decode cX2_countTouches 36 = .ok (.iload_n 1, 1) := by decide +kernel
theorem dX2_countTouches_37 : decode cX2_countTouches 37 = .ok (.ireturn, 1) := by decide +kernel
theorem dX2_lastTenth_0 : decode cX2_lastTenth 0 = .ok (.aload_n 0, 1) := by decide +kernel
theorem dX2_lastTenth_1 : decode cX2_lastTenth 1 = .ok (.aload_n 0, 1) := by decide +kernel
theorem dX2_lastTenth_2 : decode cX2_lastTenth 2 = .ok (.getfield 40, 3) := by decide +kernel
theorem dX2_lastTenth_5 : decode cX2_lastTenth 5 = .ok (.iconst 1, 1) := by decide +kernel
theorem dX2_lastTenth_6 : decode cX2_lastTenth 6 = .ok (.isub, 1) := by decide +kernel
theorem dX2_lastTenth_7 : decode cX2_lastTenth 7 = .ok (.invokevirtual 51, 3) := by decide +kernel
theorem dX2_lastTenth_10 : decode cX2_lastTenth 10 = .ok (.ireturn, 1) := by decide +kernel
theorem dX2_lastKind_0 : decode cX2_lastKind 0 = .ok (.aload_n 0, 1) := by decide +kernel
theorem dX2_lastKind_1 : decode cX2_lastKind 1 = .ok (.aload_n 0, 1) := by decide +kernel
theorem dX2_lastKind_2 : decode cX2_lastKind 2 = .ok (.getfield 40, 3) := by decide +kernel
theorem dX2_lastKind_5 : decode cX2_lastKind 5 = .ok (.iconst 1, 1) := by decide +kernel
theorem dX2_lastKind_6 : decode cX2_lastKind 6 = .ok (.isub, 1) := by decide +kernel
theorem dX2_lastKind_7 : decode cX2_lastKind 7 = .ok (.invokevirtual 55, 3) := by decide +kernel
theorem dX2_lastKind_10 : decode cX2_lastKind 10 = .ok (.ireturn, 1) := by decide +kernel
theorem dX2_keepWhatStands_0 : decode cX2_keepWhatStands 0 = .ok (.iconst 0, 1) := by decide +kernel
theorem dX2_keepWhatStands_1 : decode cX2_keepWhatStands 1 = .ok (.istore_n 2, 1) := by decide +kernel
theorem dX2_keepWhatStands_2 : decode cX2_keepWhatStands 2 = .ok (.iload_n 2, 1) := by decide +kernel
theorem dX2_keepWhatStands_3 : decode cX2_keepWhatStands 3 = .ok (.iconst 2, 1) := by decide +kernel
theorem dX2_keepWhatStands_4 : decode cX2_keepWhatStands 4 = .ok (.if_icmp .ge 37, 3) := by decide +kernel
theorem dX2_keepWhatStands_7 : decode cX2_keepWhatStands 7 = .ok (.aload_n 0, 1) := by decide +kernel
theorem dX2_keepWhatStands_8 : decode cX2_keepWhatStands 8 = .ok (.getfield 21, 3) := by decide +kernel
theorem dX2_keepWhatStands_11 : decode cX2_keepWhatStands 11 = .ok (.iload_n 2, 1) := by decide +kernel
theorem dX2_keepWhatStands_12 : decode cX2_keepWhatStands 12 = .ok (.aload_n 1, 1) := by decide +kernel
theorem dX2_keepWhatStands_13 : decode cX2_keepWhatStands 13 = .ok (.iload_n 2, 1) := by decide +kernel
theorem dX2_keepWhatStands_14 : decode cX2_keepWhatStands 14 = .ok (.invokevirtual 58, 3) := by decide +kernel
theorem dX2_keepWhatStands_17 : decode cX2_keepWhatStands 17 = .ok (.invokevirtual 64, 3) := by decide +kernel
theorem dX2_keepWhatStands_20 : decode cX2_keepWhatStands 20 = .ok (.iastore, 1) := by decide +kernel
theorem dX2_keepWhatStands_21 : decode cX2_keepWhatStands 21 = .ok (.aload_n 0, 1) := by decide +kernel
theorem dX2_keepWhatStands_22 : decode cX2_keepWhatStands 22 = .ok (.getfield 24, 3) := by decide +kernel
theorem dX2_keepWhatStands_25 : decode cX2_keepWhatStands 25 = .ok (.iload_n 2, 1) := by decide +kernel
theorem dX2_keepWhatStands_26 : decode cX2_keepWhatStands 26 = .ok (.aload_n 1, 1) := by decide +kernel
theorem dX2_keepWhatStands_27 : decode cX2_keepWhatStands 27 = .ok (.iload_n 2, 1) := by decide +kernel
theorem dX2_keepWhatStands_28 : decode cX2_keepWhatStands 28 = .ok (.invokevirtual 58, 3) := by decide +kernel
theorem dX2_keepWhatStands_31 : decode cX2_keepWhatStands 31 = .ok (.getfield 69, 3) := by decide +kernel
theorem dX2_keepWhatStands_34 : decode cX2_keepWhatStands 34 = .ok (.iastore, 1) := by decide +kernel
theorem dX2_keepWhatStands_35 : decode cX2_keepWhatStands 35 = .ok (.iinc 2 1, 3) := by decide +kernel
theorem dX2_keepWhatStands_38 : decode cX2_keepWhatStands 38 = .ok (.goto (-36), 3) := by decide +kernel
theorem dX2_keepWhatStands_41 : decode cX2_keepWhatStands 41 = .ok (.return_, 1) := by decide +kernel
theorem dX2_onBitsOf_0 : decode cX2_onBitsOf 0 = .ok (.iload_n 1, 1) := by decide +kernel
theorem dX2_onBitsOf_1 : decode cX2_onBitsOf 1 = .ok (.invokestatic 72, 3) := by decide +kernel
theorem dX2_onBitsOf_4 : decode cX2_onBitsOf 4 = .ok (.ifCond .eq 12, 3) := by decide +kernel
theorem dX2_onBitsOf_7 : decode cX2_onBitsOf 7 = .ok (.aload_n 0, 1) := by decide +kernel
theorem dX2_onBitsOf_8 : decode cX2_onBitsOf 8 = .ok (.getfield 21, 3) := by decide +kernel
theorem dX2_onBitsOf_11 : decode cX2_onBitsOf 11 = .ok (.iload_n 1, 1) := by decide +kernel
theorem dX2_onBitsOf_12 : decode cX2_onBitsOf 12 = .ok (.iaload, 1) := by decide +kernel
theorem dX2_onBitsOf_13 : decode cX2_onBitsOf 13 = .ok (.goto 4, 3) := by decide +kernel
theorem dX2_onBitsOf_16 : decode cX2_onBitsOf 16 = .ok (.iconst 0, 1) := by decide +kernel
theorem dX2_onBitsOf_17 : decode cX2_onBitsOf 17 = .ok (.ireturn, 1) := by decide +kernel
theorem dX2_scoreOf_0 : decode cX2_scoreOf 0 = .ok (.iload_n 1, 1) := by decide +kernel
theorem dX2_scoreOf_1 : decode cX2_scoreOf 1 = .ok (.invokestatic 72, 3) := by decide +kernel
theorem dX2_scoreOf_4 : decode cX2_scoreOf 4 = .ok (.ifCond .eq 12, 3) := by decide +kernel
theorem dX2_scoreOf_7 : decode cX2_scoreOf 7 = .ok (.aload_n 0, 1) := by decide +kernel
theorem dX2_scoreOf_8 : decode cX2_scoreOf 8 = .ok (.getfield 24, 3) := by decide +kernel
theorem dX2_scoreOf_11 : decode cX2_scoreOf 11 = .ok (.iload_n 1, 1) := by decide +kernel
theorem dX2_scoreOf_12 : decode cX2_scoreOf 12 = .ok (.iaload, 1) := by decide +kernel
theorem dX2_scoreOf_13 : decode cX2_scoreOf 13 = .ok (.goto 4, 3) := by decide +kernel
theorem dX2_scoreOf_16 : decode cX2_scoreOf 16 = .ok (.iconst 0, 1) := by decide +kernel
theorem dX2_scoreOf_17 : decode cX2_scoreOf 17 = .ok (.ireturn, 1) := by decide +kernel
theorem dX3_init_0 : decode cX3_init 0 = .ok (.aload_n 0, 1) := by decide +kernel
theorem dX3_init_1 : decode cX3_init 1 = .ok (.invokespecial 3, 3) := by decide +kernel
theorem dX3_init_4 : decode cX3_init 4 = .ok (.aload_n 0, 1) := by decide +kernel
theorem dX3_init_5 : decode cX3_init 5 = .ok (.bipush 8, 2) := by decide +kernel
theorem dX3_init_7 : decode cX3_init 7 = .ok (.newarray .int, 2) := by decide +kernel
theorem dX3_init_9 : decode cX3_init 9 = .ok (.putfield 9, 3) := by decide +kernel
theorem dX3_init_12 : decode cX3_init 12 = .ok (.aload_n 0, 1) := by decide +kernel
theorem dX3_init_13 : decode cX3_init 13 = .ok (.bipush 8, 2) := by decide +kernel
theorem dX3_init_15 : decode cX3_init 15 = .ok (.newarray .int, 2) := by decide +kernel
theorem dX3_init_17 : decode cX3_init 17 = .ok (.putfield 15, 3) := by decide +kernel
theorem dX3_init_20 : decode cX3_init 20 = .ok (.aload_n 0, 1) := by decide +kernel
theorem dX3_init_21 : decode cX3_init 21 = .ok (.bipush 8, 2) := by decide +kernel
theorem dX3_init_23 : decode cX3_init 23 = .ok (.newarray .int, 2) := by decide +kernel
theorem dX3_init_25 : decode cX3_init 25 = .ok (.putfield 18, 3) := by decide +kernel
theorem dX3_init_28 : decode cX3_init 28 = .ok (.aload_n 0, 1) := by decide +kernel
theorem dX3_init_29 : decode cX3_init 29 = .ok (.bipush 8, 2) := by decide +kernel
theorem dX3_init_31 : decode cX3_init 31 = .ok (.newarray .int, 2) := by decide +kernel
theorem dX3_init_33 : decode cX3_init 33 = .ok (.putfield 21, 3) := by decide +kernel
theorem dX3_init_36 : decode cX3_init 36 = .ok (.aload_n 0, 1) := by decide +kernel
theorem dX3_init_37 : decode cX3_init 37 = .ok (.bipush 8, 2) := by decide +kernel
theorem dX3_init_39 : decode cX3_init 39 = .ok (.newarray .int, 2) := by decide +kernel
theorem dX3_init_41 : decode cX3_init 41 = .ok (.putfield 24, 3) := by decide +kernel
theorem dX3_init_44 : decode cX3_init 44 = .ok (.aload_n 0, 1) := by decide +kernel
theorem dX3_init_45 : decode cX3_init 45 = .ok (.bipush 8, 2) := by decide +kernel
theorem dX3_init_47 : decode cX3_init 47 = .ok (.newarray .int, 2) := by decide +kernel
theorem dX3_init_49 : decode cX3_init 49 = .ok (.putfield 27, 3) := by decide +kernel
theorem dX3_init_52 : decode cX3_init 52 = .ok (.return_, 1) := by decide +kernel
theorem dX3_note_0 : decode cX3_note 0 = .ok (.aload_n 0, 1) := by decide +kernel
theorem dX3_note_1 : decode cX3_note 1 = .ok (.iload_n 1, 1) := by decide +kernel
theorem dX3_note_2 : decode cX3_note 2 = .ok (.iload_n 2, 1) := by decide +kernel
theorem dX3_note_3 : decode cX3_note 3 = .ok (.iload 4, 2) := by decide +kernel
theorem dX3_note_5 : decode cX3_note 5 = .ok (.invokevirtual 30, 3) := by decide +kernel
theorem dX3_note_8 : decode cX3_note 8 = .ok (.aload_n 0, 1) := by decide +kernel
theorem dX3_note_9 : decode cX3_note 9 = .ok (.iload_n 3, 1) := by decide +kernel
theorem dX3_note_10 : decode cX3_note 10 = .ok (.iload 4, 2) := by decide +kernel
theorem dX3_note_12 : decode cX3_note 12 = .ok (.iload_n 2, 1) := by decide +kernel
theorem dX3_note_13 : decode cX3_note 13 = .ok (.invokevirtual 30, 3) := by decide +kernel
theorem dX3_note_16 : decode cX3_note 16 = .ok (.iload_n 2, 1) := by decide +kernel
theorem dX3_note_17 : decode cX3_note 17 = .ok (.iload 4, 2) := by decide +kernel
theorem dX3_note_19 : decode cX3_note 19 = .ok (.if_icmp .ne 5, 3) := by decide +kernel
theorem dX3_note_22 : decode cX3_note 22 = .ok (.iconst (-1), 1) := by decide +kernel
theorem dX3_note_23 : decode cX3_note 23 = .ok (.ireturn, 1) := by decide +kernel
theorem dX3_note_24 : decode cX3_note 24 = .ok (.iload_n 2, 1) := by decide +kernel
theorem dX3_note_25 : decode cX3_note 25 = .ok (.iload 4, 2) := by decide +kernel
theorem dX3_note_27 : decode cX3_note 27 = .ok (.if_icmp .le 7, 3) := by decide +kernel
theorem dX3_note_30 : decode cX3_note 30 = .ok (.iload_n 1, 1) := by decide +kernel
theorem dX3_note_31 : decode cX3_note 31 = .ok (.goto 4, 3) := by decide +kernel
theorem dX3_note_34 : decode cX3_note 34 = .ok (.iload_n 3, 1) := by decide +kernel
theorem dX3_note_35 : decode cX3_note 35 = .ok (.ireturn, 1) := by decide +kernel
theorem dX3_noteFor_0 : decode cX3_noteFor 0 = .ok (.iload_n 1, 1) := by decide +kernel
theorem dX3_noteFor_1 : decode cX3_noteFor 1 = .ok (.invokestatic 34, 3) := by decide +kernel
theorem dX3_noteFor_4 : decode cX3_noteFor 4 = .ok (.ifCond .ne 4, 3) := by decide +kernel
theorem dX3_noteFor_7 : decode cX3_noteFor 7 = .ok (.return_, 1) := by decide +kernel
theorem dX3_noteFor_8 : decode cX3_noteFor 8 = .ok (.aload_n 0, 1) := by decide +kernel
theorem dX3_noteFor_9 : decode cX3_noteFor 9 = .ok (.getfield 9, 3) := by decide +kernel
theorem dX3_noteFor_12 : decode cX3_noteFor 12 = .ok (.iload_n 1, 1) := by decide +kernel
theorem dX3_noteFor_13 : decode cX3_noteFor 13 = .ok (.dup2, 1) := by decide +kernel
theorem dX3_noteFor_14 : decode cX3_noteFor 14 = .ok (.iaload, 1) := by decide +kernel
theorem dX3_noteFor_15 : decode cX3_noteFor 15 = .ok (.iconst 1, 1) := by decide +kernel
theorem dX3_noteFor_16 : decode cX3_noteFor 16 = .ok (.iadd, 1) := by decide +kernel
theorem dX3_noteFor_17 : decode cX3_noteFor 17 = .ok (.iastore, 1) := by decide +kernel
theorem dX3_noteFor_18 : decode cX3_noteFor 18 = .ok (.aload_n 0, 1) := by decide +kernel
theorem dX3_noteFor_19 : decode cX3_noteFor 19 = .ok (.getfield 24, 3) := by decide +kernel
theorem dX3_noteFor_22 : decode cX3_noteFor 22 = .ok (.iload_n 1, 1) := by decide +kernel
theorem dX3_noteFor_23 : decode cX3_noteFor 23 = .ok (.dup2, 1) := by decide +kernel
theorem dX3_noteFor_24 : decode cX3_noteFor 24 = .ok (.iaload, 1) := by decide +kernel
theorem dX3_noteFor_25 : decode cX3_noteFor 25 = .ok (.iload_n 2, 1) := by decide +kernel
theorem dX3_noteFor_26 : decode cX3_noteFor 26 = .ok (.iadd, 1) := by decide +kernel
theorem dX3_noteFor_27 : decode cX3_noteFor 27 = .ok (.iastore, 1) := by decide +kernel
theorem dX3_noteFor_28 : decode cX3_noteFor 28 = .ok (.aload_n 0, 1) := by decide +kernel
theorem dX3_noteFor_29 : decode cX3_noteFor 29 = .ok (.getfield 27, 3) := by decide +kernel
theorem dX3_noteFor_32 : decode cX3_noteFor 32 = .ok (.iload_n 1, 1) := by decide +kernel
theorem dX3_noteFor_33 : decode cX3_noteFor 33 = .ok (.dup2, 1) := by decide +kernel
theorem dX3_noteFor_34 : decode cX3_noteFor 34 = .ok (.iaload, 1) := by decide +kernel
theorem dX3_noteFor_35 : decode cX3_noteFor 35 = .ok (.iload_n 3, 1) := by decide +kernel
theorem dX3_noteFor_36 : decode cX3_noteFor 36 = .ok (.iadd, 1) := by decide +kernel
theorem dX3_noteFor_37 : decode cX3_noteFor 37 = .ok (.iastore, 1) := by decide +kernel
theorem dX3_noteFor_38 : decode cX3_noteFor 38 = .ok (.iload_n 2, 1) := by decide +kernel
theorem dX3_noteFor_39 : decode cX3_noteFor 39 = .ok (.iload_n 3, 1) := by decide +kernel
theorem dX3_noteFor_40 : decode cX3_noteFor 40 = .ok (.if_icmp .le 26, 3) := by decide +kernel
theorem dX3_noteFor_43 : decode cX3_noteFor 43 = .ok (.aload_n 0, 1) := by decide +kernel
theorem dX3_noteFor_44 : decode cX3_noteFor 44 = .ok (.getfield 15, 3) := by decide +kernel
theorem dX3_noteFor_47 : decode cX3_noteFor 47 = .ok (.iload_n 1, 1) := by decide +kernel
theorem dX3_noteFor_48 : decode cX3_noteFor 48 = .ok (.dup2, 1) := by decide +kernel
theorem dX3_noteFor_49 : decode cX3_noteFor 49 = .ok (.iaload, 1) := by decide +kernel
theorem dX3_noteFor_50 : decode cX3_noteFor 50 = .ok (.iconst 1, 1) := by decide +kernel
theorem dX3_noteFor_51 : decode cX3_noteFor 51 = .ok (.iadd, 1) := by decide +kernel
theorem dX3_noteFor_52 : decode cX3_noteFor 52 = .ok (.iastore, 1) := by decide +kernel
theorem dX3_noteFor_53 : decode cX3_noteFor 53 = .ok (.aload_n 0, 1) := by decide +kernel
theorem dX3_noteFor_54 : decode cX3_noteFor 54 = .ok (.getfield 21, 3) := by decide +kernel
theorem dX3_noteFor_57 : decode cX3_noteFor 57 = .ok (.iload_n 1, 1) := by decide +kernel
theorem dX3_noteFor_58 : decode cX3_noteFor 58 = .ok (.dup2, 1) := by decide +kernel
theorem dX3_noteFor_59 : decode cX3_noteFor 59 = .ok (.iaload, 1) := by decide +kernel
theorem dX3_noteFor_60 : decode cX3_noteFor 60 = .ok (.iconst 5, 1) := by decide +kernel
theorem dX3_noteFor_61 : decode cX3_noteFor 61 = .ok (.iadd, 1) := by decide +kernel
theorem dX3_noteFor_62 : decode cX3_noteFor 62 = .ok (.iastore, 1) := by decide +kernel
theorem dX3_noteFor_63 : decode cX3_noteFor 63 = .ok (.goto 49, 3) := by decide +kernel
theorem dX3_noteFor_66 : decode cX3_noteFor 66 = .ok (.iload_n 2, 1) := by decide +kernel
theorem dX3_noteFor_67 : decode cX3_noteFor 67 = .ok (.iload_n 3, 1) := by decide +kernel
theorem dX3_noteFor_68 : decode cX3_noteFor 68 = .ok (.if_icmp .ne 26, 3) := by decide +kernel
theorem dX3_noteFor_71 : decode cX3_noteFor 71 = .ok (.aload_n 0, 1) := by decide +kernel
theorem dX3_noteFor_72 : decode cX3_noteFor 72 = .ok (.getfield 18, 3) := by decide +kernel
theorem dX3_noteFor_75 : decode cX3_noteFor 75 = .ok (.iload_n 1, 1) := by decide +kernel
theorem dX3_noteFor_76 : decode cX3_noteFor 76 = .ok (.dup2, 1) := by decide +kernel
theorem dX3_noteFor_77 : decode cX3_noteFor 77 = .ok (.iaload, 1) := by decide +kernel
theorem dX3_noteFor_78 : decode cX3_noteFor 78 = .ok (.iconst 1, 1) := by decide +kernel
theorem dX3_noteFor_79 : decode cX3_noteFor 79 = .ok (.iadd, 1) := by decide +kernel
theorem dX3_noteFor_80 : decode cX3_noteFor 80 = .ok (.iastore, 1) := by decide +kernel
theorem dX3_noteFor_81 : decode cX3_noteFor 81 = .ok (.aload_n 0, 1) := by decide +kernel
theorem dX3_noteFor_82 : decode cX3_noteFor 82 = .ok (.getfield 21, 3) := by decide +kernel
theorem dX3_noteFor_85 : decode cX3_noteFor 85 = .ok (.iload_n 1, 1) := by decide +kernel
theorem dX3_noteFor_86 : decode cX3_noteFor 86 = .ok (.dup2, 1) := by decide +kernel
theorem dX3_noteFor_87 : decode cX3_noteFor 87 = .ok (.iaload, 1) := by decide +kernel
theorem dX3_noteFor_88 : decode cX3_noteFor 88 = .ok (.iconst 3, 1) := by decide +kernel
theorem dX3_noteFor_89 : decode cX3_noteFor 89 = .ok (.iadd, 1) := by decide +kernel
theorem dX3_noteFor_90 : decode cX3_noteFor 90 = .ok (.iastore, 1) := by decide +kernel
theorem dX3_noteFor_91 : decode cX3_noteFor 91 = .ok (.goto 21, 3) := by decide +kernel
theorem dX3_noteFor_94 : decode cX3_noteFor 94 = .ok (.iload_n 3, 1) := by decide +kernel
theorem dX3_noteFor_95 : decode cX3_noteFor 95 = .ok (.iload_n 2, 1) := by decide +kernel
theorem dX3_noteFor_96 : decode cX3_noteFor 96 = .ok (.isub, 1) := by decide +kernel
theorem dX3_noteFor_97 : decode cX3_noteFor 97 = .ok (.bipush 7, 2) := by decide +kernel
theorem dX3_noteFor_99 : decode cX3_noteFor 99 = .ok (.if_icmp .gt 13, 3) := by decide +kernel
theorem dX3_noteFor_102 : decode cX3_noteFor 102 = .ok (.aload_n 0, 1) := by decide +kernel
theorem dX3_noteFor_103 : decode cX3_noteFor 103 = .ok (.getfield 21, 3) := by decide +kernel
theorem dX3_noteFor_106 : decode cX3_noteFor 106 = .ok (.iload_n 1, 1) := by decide +kernel
theorem dX3_noteFor_107 : decode cX3_noteFor 107 = .ok (.dup2, 1) := by decide +kernel
theorem dX3_noteFor_108 : decode cX3_noteFor 108 = .ok (.iaload, 1) := by decide +kernel
theorem dX3_noteFor_109 : decode cX3_noteFor 109 = .ok (.iconst 1, 1) := by decide +kernel
theorem dX3_noteFor_110 : decode cX3_noteFor 110 = .ok (.iadd, 1) := by decide +kernel
theorem dX3_noteFor_111 : decode cX3_noteFor 111 = .ok (.iastore, 1) := by decide +kernel
theorem dX3_noteFor_112 : decode cX3_noteFor 112 = .ok (.return_, 1) := by decide +kernel
theorem dX3_tellOf_0 : decode cX3_tellOf 0 = .ok (.iload_n 1, 1) := by decide +kernel
theorem dX3_tellOf_1 : decode cX3_tellOf 1 = .ok (.invokestatic 34, 3) := by decide +kernel
theorem dX3_tellOf_4 : decode cX3_tellOf 4 = .ok (.ifCond .ne 5, 3) := by decide +kernel
theorem dX3_tellOf_7 : decode cX3_tellOf 7 = .ok (.iconst (-1), 1) := by decide +kernel
theorem dX3_tellOf_8 : decode cX3_tellOf 8 = .ok (.ireturn, 1) := by decide +kernel
theorem dX3_tellOf_9 : decode cX3_tellOf 9 = .ok (.iload_n 2, 1) := by decide +kernel
theorem dX3_tellOf_10 : decode cX3_tellOf 10 = .ok (.tableswitch 80 0 5 #[38, 45, 52, 59, 66, 73], 38) := by decide +kernel
theorem dX3_tellOf_48 : decode cX3_tellOf 48 = .ok (.aload_n 0, 1) := by decide +kernel
theorem dX3_tellOf_49 : decode cX3_tellOf 49 = .ok (.getfield 9, 3) := by decide +kernel
theorem dX3_tellOf_52 : decode cX3_tellOf 52 = .ok (.iload_n 1, 1) := by decide +kernel
theorem dX3_tellOf_53 : decode cX3_tellOf 53 = .ok (.iaload, 1) := by decide +kernel
theorem dX3_tellOf_54 : decode cX3_tellOf 54 = .ok (.ireturn, 1) := by decide +kernel
theorem dX3_tellOf_55 : decode cX3_tellOf 55 = .ok (.aload_n 0, 1) := by decide +kernel
theorem dX3_tellOf_56 : decode cX3_tellOf 56 = .ok (.getfield 15, 3) := by decide +kernel
theorem dX3_tellOf_59 : decode cX3_tellOf 59 = .ok (.iload_n 1, 1) := by decide +kernel
theorem dX3_tellOf_60 : decode cX3_tellOf 60 = .ok (.iaload, 1) := by decide +kernel
theorem dX3_tellOf_61 : decode cX3_tellOf 61 = .ok (.ireturn, 1) := by decide +kernel
theorem dX3_tellOf_62 : decode cX3_tellOf 62 = .ok (.aload_n 0, 1) := by decide +kernel
theorem dX3_tellOf_63 : decode cX3_tellOf 63 = .ok (.getfield 18, 3) := by decide +kernel
theorem dX3_tellOf_66 : decode cX3_tellOf 66 = .ok (.iload_n 1, 1) := by decide +kernel
theorem dX3_tellOf_67 : decode cX3_tellOf 67 = .ok (.iaload, 1) := by decide +kernel
theorem dX3_tellOf_68 : decode cX3_tellOf 68 = .ok (.ireturn, 1) := by decide +kernel
theorem dX3_tellOf_69 : decode cX3_tellOf 69 = .ok (.aload_n 0, 1) := by decide +kernel
theorem dX3_tellOf_70 : decode cX3_tellOf 70 = .ok (.getfield 21, 3) := by decide +kernel
theorem dX3_tellOf_73 : decode cX3_tellOf 73 = .ok (.iload_n 1, 1) := by decide +kernel
theorem dX3_tellOf_74 : decode cX3_tellOf 74 = .ok (.iaload, 1) := by decide +kernel
theorem dX3_tellOf_75 : decode cX3_tellOf 75 = .ok (.ireturn, 1) := by decide +kernel
theorem dX3_tellOf_76 : decode cX3_tellOf 76 = .ok (.aload_n 0, 1) := by decide +kernel
theorem dX3_tellOf_77 : decode cX3_tellOf 77 = .ok (.getfield 24, 3) := by decide +kernel
theorem dX3_tellOf_80 : decode cX3_tellOf 80 = .ok (.iload_n 1, 1) := by decide +kernel
theorem dX3_tellOf_81 : decode cX3_tellOf 81 = .ok (.iaload, 1) := by decide +kernel
theorem dX3_tellOf_82 : decode cX3_tellOf 82 = .ok (.ireturn, 1) := by decide +kernel
theorem dX3_tellOf_83 : decode cX3_tellOf 83 = .ok (.aload_n 0, 1) := by decide +kernel
theorem dX3_tellOf_84 : decode cX3_tellOf 84 = .ok (.getfield 27, 3) := by decide +kernel
theorem dX3_tellOf_87 : decode cX3_tellOf 87 = .ok (.iload_n 1, 1) := by decide +kernel
theorem dX3_tellOf_88 : decode cX3_tellOf 88 = .ok (.iaload, 1) := by decide +kernel
theorem dX3_tellOf_89 : decode cX3_tellOf 89 = .ok (.ireturn, 1) := by decide +kernel
theorem dX3_tellOf_90 : decode cX3_tellOf 90 = .ok (.aload_n 0, 1) := by decide +kernel
theorem dX3_tellOf_91 : decode cX3_tellOf 91 = .ok (.iload_n 1, 1) := by decide +kernel
theorem dX3_tellOf_92 : decode cX3_tellOf 92 = .ok (.invokevirtual 38, 3) := by decide +kernel
theorem dX3_tellOf_95 : decode cX3_tellOf 95 = .ok (.ireturn, 1) := by decide +kernel
theorem dX3_rankOf_0 : decode cX3_rankOf 0 = .ok (.iconst 0, 1) := by decide +kernel
theorem dX3_rankOf_1 : decode cX3_rankOf 1 = .ok (.istore_n 2, 1) := by decide +kernel
theorem dX3_rankOf_2 : decode cX3_rankOf 2 = .ok (.iconst 0, 1) := by decide +kernel
theorem dX3_rankOf_3 : decode cX3_rankOf 3 = .ok (.istore_n 3, 1) := by decide +kernel
theorem dX3_rankOf_4 : decode cX3_rankOf 4 = .ok (.iload_n 3, 1) := by decide +kernel
theorem dX3_rankOf_5 : decode cX3_rankOf 5 = .ok (.bipush 8, 2) := by decide +kernel
theorem dX3_rankOf_7 : decode cX3_rankOf 7 = .ok (.if_icmp .ge 26, 3) := by decide +kernel
theorem dX3_rankOf_10 : decode cX3_rankOf 10 = .ok (.iload_n 3, 1) := by decide +kernel
theorem dX3_rankOf_11 : decode cX3_rankOf 11 = .ok (.iload_n 1, 1) := by decide +kernel
theorem dX3_rankOf_12 : decode cX3_rankOf 12 = .ok (.if_icmp .eq 15, 3) := by decide +kernel
theorem dX3_rankOf_15 : decode cX3_rankOf 15 = .ok (.aload_n 0, 1) := by decide +kernel
theorem dX3_rankOf_16 : decode cX3_rankOf 16 = .ok (.iload_n 3, 1) := by decide +kernel
theorem dX3_rankOf_17 : decode cX3_rankOf 17 = .ok (.iload_n 1, 1) := by decide +kernel
theorem dX3_rankOf_18 : decode cX3_rankOf 18 = .ok (.invokevirtual 42, 3) := by decide +kernel
theorem dX3_rankOf_21 : decode cX3_rankOf 21 = .ok (.ifCond .eq 6, 3) := by decide +kernel
theorem dX3_rankOf_24 : decode cX3_rankOf 24 = .ok (.iinc 2 1, 3) := by decide +kernel
theorem dX3_rankOf_27 : decode cX3_rankOf 27 = .ok (.iinc 3 1, 3) := by decide +kernel
theorem dX3_rankOf_30 : decode cX3_rankOf 30 = .ok (.goto (-26), 3) := by decide +kernel
theorem dX3_rankOf_33 : decode cX3_rankOf 33 = .ok (.iload_n 2, 1) := by decide +kernel
theorem dX3_rankOf_34 : decode cX3_rankOf 34 = .ok (.ireturn, 1) := by decide +kernel
theorem dX3_isAhead_0 : decode cX3_isAhead 0 = .ok (.iload_n 1, 1) := by decide +kernel
theorem dX3_isAhead_1 : decode cX3_isAhead 1 = .ok (.invokestatic 34, 3) := by decide +kernel
theorem dX3_isAhead_4 : decode cX3_isAhead 4 = .ok (.ifCond .eq 10, 3) := by decide +kernel
theorem dX3_isAhead_7 : decode cX3_isAhead 7 = .ok (.iload_n 2, 1) := by decide +kernel
theorem dX3_isAhead_8 : decode cX3_isAhead 8 = .ok (.invokestatic 34, 3) := by decide +kernel
theorem dX3_isAhead_11 : decode cX3_isAhead 11 = .ok (.ifCond .ne 5, 3) := by decide +kernel
theorem dX3_isAhead_14 : decode cX3_isAhead 14 = .ok (.iconst 0, 1) := by decide +kernel
theorem dX3_isAhead_15 : decode cX3_isAhead 15 = .ok (.ireturn, 1) := by decide +kernel
theorem dX3_isAhead_16 : decode cX3_isAhead 16 = .ok (.aload_n 0, 1) := by decide +kernel
theorem dX3_isAhead_17 : decode cX3_isAhead 17 = .ok (.getfield 21, 3) := by decide +kernel
theorem dX3_isAhead_20 : decode cX3_isAhead 20 = .ok (.iload_n 1, 1) := by decide +kernel
theorem dX3_isAhead_21 : decode cX3_isAhead 21 = .ok (.iaload, 1) := by decide +kernel
theorem dX3_isAhead_22 : decode cX3_isAhead 22 = .ok (.aload_n 0, 1) := by decide +kernel
theorem dX3_isAhead_23 : decode cX3_isAhead 23 = .ok (.getfield 21, 3) := by decide +kernel
theorem dX3_isAhead_26 : decode cX3_isAhead 26 = .ok (.iload_n 2, 1) := by decide +kernel
theorem dX3_isAhead_27 : decode cX3_isAhead 27 = .ok (.iaload, 1) := by decide +kernel
theorem dX3_isAhead_28 : decode cX3_isAhead 28 = .ok (.if_icmp .eq 24, 3) := by decide +kernel
theorem dX3_isAhead_31 : decode cX3_isAhead 31 = .ok (.aload_n 0, 1) := by decide +kernel
theorem dX3_isAhead_32 : decode cX3_isAhead 32 = .ok (.getfield 21, 3) := by decide +kernel
theorem dX3_isAhead_35 : decode cX3_isAhead 35 = .ok (.iload_n 1, 1) := by decide +kernel
theorem dX3_isAhead_36 : decode cX3_isAhead 36 = .ok (.iaload, 1) := by decide +kernel
theorem dX3_isAhead_37 : decode cX3_isAhead 37 = .ok (.aload_n 0, 1) := by decide +kernel
theorem dX3_isAhead_38 : decode cX3_isAhead 38 = .ok (.getfield 21, 3) := by decide +kernel
theorem dX3_isAhead_41 : decode cX3_isAhead 41 = .ok (.iload_n 2, 1) := by decide +kernel
theorem dX3_isAhead_42 : decode cX3_isAhead 42 = .ok (.iaload, 1) := by decide +kernel
theorem dX3_isAhead_43 : decode cX3_isAhead 43 = .ok (.if_icmp .le 7, 3) := by decide +kernel
theorem dX3_isAhead_46 : decode cX3_isAhead 46 = .ok (.iconst 1, 1) := by decide +kernel
theorem dX3_isAhead_47 : decode cX3_isAhead 47 = .ok (.goto 4, 3) := by decide +kernel
theorem dX3_isAhead_50 : decode cX3_isAhead 50 = .ok (.iconst 0, 1) := by decide +kernel
theorem dX3_isAhead_51 : decode cX3_isAhead 51 = .ok (.ireturn, 1) := by decide +kernel
theorem dX3_isAhead_52 : decode cX3_isAhead 52 = .ok (.aload_n 0, 1) := by decide +kernel
theorem dX3_isAhead_53 : decode cX3_isAhead 53 = .ok (.iload_n 1, 1) := by decide +kernel
theorem dX3_isAhead_54 : decode cX3_isAhead 54 = .ok (.invokevirtual 46, 3) := by decide +kernel
theorem dX3_isAhead_57 : decode cX3_isAhead 57 = .ok (.aload_n 0, 1) := by decide +kernel
theorem dX3_isAhead_58 : decode cX3_isAhead 58 = .ok (.iload_n 2, 1) := by decide +kernel
theorem dX3_isAhead_59 : decode cX3_isAhead 59 = .ok (.invokevirtual 50, 3) := by decide +kernel
theorem dX3_isAhead_62 : decode cX3_isAhead 62 = .ok (.lmul, 1) := by decide +kernel
theorem dX3_isAhead_63 : decode cX3_isAhead 63 = .ok (.lstore_n 3, 1) := by decide +kernel
theorem dX3_isAhead_64 : decode cX3_isAhead 64 = .ok (.aload_n 0, 1) := by decide +kernel
theorem dX3_isAhead_65 : decode cX3_isAhead 65 = .ok (.iload_n 2, 1) := by decide +kernel
theorem dX3_isAhead_66 : decode cX3_isAhead 66 = .ok (.invokevirtual 46, 3) := by decide +kernel
theorem dX3_isAhead_69 : decode cX3_isAhead 69 = .ok (.aload_n 0, 1) := by decide +kernel
theorem dX3_isAhead_70 : decode cX3_isAhead 70 = .ok (.iload_n 1, 1) := by decide +kernel
theorem dX3_isAhead_71 : decode cX3_isAhead 71 = .ok (.invokevirtual 50, 3) := by decide +kernel
theorem dX3_isAhead_74 : decode cX3_isAhead 74 = .ok (.lmul, 1) := by decide +kernel
theorem dX3_isAhead_75 : decode cX3_isAhead 75 = .ok (.lstore 5, 2) := by decide +kernel
theorem dX3_isAhead_77 : decode cX3_isAhead 77 = .ok (.lload_n 3, 1) := by decide +kernel
theorem dX3_isAhead_78 : decode cX3_isAhead 78 = .ok (.lload 5, 2) := by decide +kernel
theorem dX3_isAhead_80 : decode cX3_isAhead 80 = .ok (.lcmp, 1) := by decide +kernel
theorem dX3_isAhead_81 : decode cX3_isAhead 81 = .ok (.ifCond .ne 16, 3) := by decide +kernel
theorem dX3_isAhead_84 : decode cX3_isAhead 84 = .ok (.iload_n 1, 1) := by decide +kernel
theorem dX3_isAhead_85 : decode cX3_isAhead 85 = .ok (.iload_n 2, 1) := by decide +kernel
theorem dX3_isAhead_86 : decode cX3_isAhead 86 = .ok (.if_icmp .ge 7, 3) := by decide +kernel
theorem dX3_isAhead_89 : decode cX3_isAhead 89 = .ok (.iconst 1, 1) := by decide +kernel
theorem dX3_isAhead_90 : decode cX3_isAhead 90 = .ok (.goto 19, 3) := by decide +kernel
theorem dX3_isAhead_93 : decode cX3_isAhead 93 = .ok (.iconst 0, 1) := by decide +kernel
theorem dX3_isAhead_94 : decode cX3_isAhead 94 = .ok (.goto 15, 3) := by decide +kernel
theorem dX3_isAhead_97 : decode cX3_isAhead 97 = .ok (.lload_n 3, 1) := by decide +kernel
theorem dX3_isAhead_98 : decode cX3_isAhead 98 = .ok (.lload 5, 2) := by decide +kernel
theorem dX3_isAhead_100 : decode cX3_isAhead 100 = .ok (.lcmp, 1) := by decide +kernel
theorem dX3_isAhead_101 : decode cX3_isAhead 101 = .ok (.ifCond .le 7, 3) := by decide +kernel
theorem dX3_isAhead_104 : decode cX3_isAhead 104 = .ok (.iconst 1, 1) := by decide +kernel
theorem dX3_isAhead_105 : decode cX3_isAhead 105 = .ok (.goto 4, 3) := by decide +kernel
theorem dX3_isAhead_108 : decode cX3_isAhead 108 = .ok (.iconst 0, 1) := by decide +kernel
theorem dX3_isAhead_109 : decode cX3_isAhead 109 = .ok (.ireturn, 1) := by decide +kernel
theorem dX3_upper_0 : decode cX3_upper 0 = .ok (.aload_n 0, 1) := by decide +kernel
theorem dX3_upper_1 : decode cX3_upper 1 = .ok (.getfield 27, 3) := by decide +kernel
theorem dX3_upper_4 : decode cX3_upper 4 = .ok (.iload_n 1, 1) := by decide +kernel
theorem dX3_upper_5 : decode cX3_upper 5 = .ok (.iaload, 1) := by decide +kernel
theorem dX3_upper_6 : decode cX3_upper 6 = .ok (.ifCond .ne 7, 3) := by decide +kernel
theorem dX3_upper_9 : decode cX3_upper 9 = .ok (.lconst 1, 1) := by decide +kernel
theorem dX3_upper_10 : decode cX3_upper 10 = .ok (.goto 10, 3) := by decide +kernel
theorem dX3_upper_13 : decode cX3_upper 13 = .ok (.aload_n 0, 1) := by decide +kernel
theorem dX3_upper_14 : decode cX3_upper 14 = .ok (.getfield 24, 3) := by decide +kernel
theorem dX3_upper_17 : decode cX3_upper 17 = .ok (.iload_n 1, 1) := by decide +kernel
theorem dX3_upper_18 : decode cX3_upper 18 = .ok (.iaload, 1) := by decide +kernel
theorem dX3_upper_19 : decode cX3_upper 19 = .ok (.i2l, 1) := by decide +kernel
theorem dX3_upper_20 : decode cX3_upper 20 = .ok (.lreturn, 1) := by decide +kernel
theorem dX3_lower_0 : decode cX3_lower 0 = .ok (.aload_n 0, 1) := by decide +kernel
theorem dX3_lower_1 : decode cX3_lower 1 = .ok (.getfield 27, 3) := by decide +kernel
theorem dX3_lower_4 : decode cX3_lower 4 = .ok (.iload_n 1, 1) := by decide +kernel
theorem dX3_lower_5 : decode cX3_lower 5 = .ok (.iaload, 1) := by decide +kernel
theorem dX3_lower_6 : decode cX3_lower 6 = .ok (.ifCond .ne 16, 3) := by decide +kernel
theorem dX3_lower_9 : decode cX3_lower 9 = .ok (.aload_n 0, 1) := by decide +kernel
theorem dX3_lower_10 : decode cX3_lower 10 = .ok (.getfield 24, 3) := by decide +kernel
theorem dX3_lower_13 : decode cX3_lower 13 = .ok (.iload_n 1, 1) := by decide +kernel
theorem dX3_lower_14 : decode cX3_lower 14 = .ok (.iaload, 1) := by decide +kernel
theorem dX3_lower_15 : decode cX3_lower 15 = .ok (.ifCond .ne 7, 3) := by decide +kernel
theorem dX3_lower_18 : decode cX3_lower 18 = .ok (.lconst 1, 1) := by decide +kernel
theorem dX3_lower_19 : decode cX3_lower 19 = .ok (.goto 10, 3) := by decide +kernel
theorem dX3_lower_22 : decode cX3_lower 22 = .ok (.aload_n 0, 1) := by decide +kernel
theorem dX3_lower_23 : decode cX3_lower 23 = .ok (.getfield 27, 3) := by decide +kernel
theorem dX3_lower_26 : decode cX3_lower 26 = .ok (.iload_n 1, 1) := by decide +kernel
theorem dX3_lower_27 : decode cX3_lower 27 = .ok (.iaload, 1) := by decide +kernel
theorem dX3_lower_28 : decode cX3_lower 28 = .ok (.i2l, 1) := by decide +kernel
theorem dX3_lower_29 : decode cX3_lower 29 = .ok (.lreturn, 1) := by decide +kernel
theorem dX4_init_0 : decode cX4_init 0 = .ok (.aload_n 0, 1) := by decide +kernel
theorem dX4_init_1 : decode cX4_init 1 = .ok (.invokespecial 3, 3) := by decide +kernel
theorem dX4_init_4 : decode cX4_init 4 = .ok (.aload_n 0, 1) := by decide +kernel
theorem dX4_init_5 : decode cX4_init 5 = .ok (.new 9, 3) := by decide +kernel
theorem dX4_init_8 : decode cX4_init 8 = .ok (.dup, 1) := by decide +kernel
theorem dX4_init_9 : decode cX4_init 9 = .ok (.invokespecial 11, 3) := by decide +kernel
theorem dX4_init_12 : decode cX4_init 12 = .ok (.putfield 12, 3) := by decide +kernel
theorem dX4_init_15 : decode cX4_init 15 = .ok (.aload_n 0, 1) := by decide +kernel
theorem dX4_init_16 : decode cX4_init 16 = .ok (.new 9, 3) := by decide +kernel
theorem dX4_init_19 : decode cX4_init 19 = .ok (.dup, 1) := by decide +kernel
theorem dX4_init_20 : decode cX4_init 20 = .ok (.invokespecial 11, 3) := by decide +kernel
theorem dX4_init_23 : decode cX4_init 23 = .ok (.putfield 18, 3) := by decide +kernel
theorem dX4_init_26 : decode cX4_init 26 = .ok (.return_, 1) := by decide +kernel
theorem dX4_reset_0 : decode cX4_reset 0 = .ok (.aload_n 0, 1) := by decide +kernel
theorem dX4_reset_1 : decode cX4_reset 1 = .ok (.getfield 12, 3) := by decide +kernel
theorem dX4_reset_4 : decode cX4_reset 4 = .ok (.invokevirtual 21, 3) := by decide +kernel
theorem dX4_reset_7 : decode cX4_reset 7 = .ok (.aload_n 0, 1) := by decide +kernel
theorem dX4_reset_8 : decode cX4_reset 8 = .ok (.getfield 18, 3) := by decide +kernel
theorem dX4_reset_11 : decode cX4_reset 11 = .ok (.invokevirtual 21, 3) := by decide +kernel
theorem dX4_reset_14 : decode cX4_reset 14 = .ok (.aload_n 0, 1) := by decide +kernel
theorem dX4_reset_15 : decode cX4_reset 15 = .ok (.iconst 0, 1) := by decide +kernel
theorem dX4_reset_16 : decode cX4_reset 16 = .ok (.putfield 24, 3) := by decide +kernel
theorem dX4_reset_19 : decode cX4_reset 19 = .ok (.aload_n 0, 1) := by decide +kernel
theorem dX4_reset_20 : decode cX4_reset 20 = .ok (.iconst 0, 1) := by decide +kernel
theorem dX4_reset_21 : decode cX4_reset 21 = .ok (.putfield 28, 3) := by decide +kernel
theorem dX4_reset_24 : decode cX4_reset 24 = .ok (.return_, 1) := by decide +kernel
theorem dX4_sideAt_0 : decode cX4_sideAt 0 = .ok (.iload_n 1, 1) := by decide +kernel
theorem dX4_sideAt_1 : decode cX4_sideAt 1 = .ok (.ifCond .ne 10, 3) := by decide +kernel
theorem dX4_sideAt_4 : decode cX4_sideAt 4 = .ok (.aload_n 0, 1) := by decide +kernel
theorem dX4_sideAt_5 : decode cX4_sideAt 5 = .ok (.getfield 12, 3) := by decide +kernel
theorem dX4_sideAt_8 : decode cX4_sideAt 8 = .ok (.goto 7, 3) := by decide +kernel
theorem dX4_sideAt_11 : decode cX4_sideAt 11 = .ok (.aload_n 0, 1) := by decide +kernel
theorem dX4_sideAt_12 : decode cX4_sideAt 12 = .ok (.getfield 18, 3) := by decide +kernel
theorem dX4_sideAt_15 : decode cX4_sideAt 15 = .ok (.areturn, 1) := by decide +kernel
theorem dX4_turn_0 : decode cX4_turn 0 = .ok (.aload_n 0, 1) := by decide +kernel
theorem dX4_turn_1 : decode cX4_turn 1 = .ok (.getfield 28, 3) := by decide +kernel
theorem dX4_turn_4 : decode cX4_turn 4 = .ok (.iconst 1, 1) := by decide +kernel
theorem dX4_turn_5 : decode cX4_turn 5 = .ok (.iand, 1) := by decide +kernel
theorem dX4_turn_6 : decode cX4_turn 6 = .ok (.ireturn, 1) := by decide +kernel
theorem dX4_isDoOrDie_0 : decode cX4_isDoOrDie 0 = .ok (.aload_n 0, 1) := by decide +kernel
theorem dX4_isDoOrDie_1 : decode cX4_isDoOrDie 1 = .ok (.aload_n 0, 1) := by decide +kernel
theorem dX4_isDoOrDie_2 : decode cX4_isDoOrDie 2 = .ok (.invokevirtual 31, 3) := by decide +kernel
theorem dX4_isDoOrDie_5 : decode cX4_isDoOrDie 5 = .ok (.invokevirtual 35, 3) := by decide +kernel
theorem dX4_isDoOrDie_8 : decode cX4_isDoOrDie 8 = .ok (.getfield 39, 3) := by decide +kernel
theorem dX4_isDoOrDie_11 : decode cX4_isDoOrDie 11 = .ok (.iconst 2, 1) := by decide +kernel
theorem dX4_isDoOrDie_12 : decode cX4_isDoOrDie 12 = .ok (.if_icmp .lt 7, 3) := by decide +kernel
theorem dX4_isDoOrDie_15 : decode cX4_isDoOrDie 15 = .ok (.iconst 1, 1) := by decide +kernel
theorem dX4_isDoOrDie_16 : decode cX4_isDoOrDie 16 = .ok (.goto 4, 3) := by decide +kernel
theorem dX4_isDoOrDie_19 : decode cX4_isDoOrDie 19 = .ok (.iconst 0, 1) := by decide +kernel
theorem dX4_isDoOrDie_20 : decode cX4_isDoOrDie 20 = .ok (.ireturn, 1) := by decide +kernel
theorem dX4_mayStep_0 : decode cX4_mayStep 0 = .ok (.iload_n 3, 1) := by decide +kernel
theorem dX4_mayStep_1 : decode cX4_mayStep 1 = .ok (.bipush 6, 2) := by decide +kernel
theorem dX4_mayStep_3 : decode cX4_mayStep 3 = .ok (.if_icmp .ne 17, 3) := by decide +kernel
theorem dX4_mayStep_6 : decode cX4_mayStep 6 = .ok (.iload 5, 2) := by decide +kernel
theorem dX4_mayStep_8 : decode cX4_mayStep 8 = .ok (.sipush 300, 3) := by decide +kernel
theorem dX4_mayStep_11 : decode cX4_mayStep 11 = .ok (.if_icmp .ne 7, 3) := by decide +kernel
theorem dX4_mayStep_14 : decode cX4_mayStep 14 = .ok (.iconst 1, 1) := by decide +kernel
theorem dX4_mayStep_15 : decode cX4_mayStep 15 = .ok (.goto 4, 3) := by decide +kernel
theorem dX4_mayStep_18 : decode cX4_mayStep 18 = .ok (.iconst 0, 1) := by decide +kernel
theorem dX4_mayStep_19 : decode cX4_mayStep 19 = .ok (.ireturn, 1) := by decide +kernel
theorem dX4_mayStep_20 : decode cX4_mayStep 20 = .ok (.iload_n 3, 1) := by decide +kernel
theorem dX4_mayStep_21 : decode cX4_mayStep 21 = .ok (.invokestatic 42, 3) := by decide +kernel
theorem dX4_mayStep_24 : decode cX4_mayStep 24 = .ok (.ifCond .eq 5, 3) := by decide +kernel
theorem dX4_mayStep_27 : decode cX4_mayStep 27 = .ok (.iconst 1, 1) := by decide +kernel
theorem dX4_mayStep_28 : decode cX4_mayStep 28 = .ok (.ireturn, 1) := by decide +kernel
theorem dX4_mayStep_29 : decode cX4_mayStep 29 = .ok (.iload_n 3, 1) := by decide +kernel
theorem dX4_mayStep_30 : decode cX4_mayStep 30 = .ok (.ifCond .ne 23, 3) := by decide +kernel
theorem dX4_mayStep_33 : decode cX4_mayStep 33 = .ok (.aload_n 0, 1) := by decide +kernel
theorem dX4_mayStep_34 : decode cX4_mayStep 34 = .ok (.iconst 1, 1) := by decide +kernel
theorem dX4_mayStep_35 : decode cX4_mayStep 35 = .ok (.aload_n 0, 1) := by decide +kernel
theorem dX4_mayStep_36 : decode cX4_mayStep 36 = .ok (.invokevirtual 31, 3) := by decide +kernel
theorem dX4_mayStep_39 : decode cX4_mayStep 39 = .ok (.isub, 1) := by decide +kernel
theorem dX4_mayStep_40 : decode cX4_mayStep 40 = .ok (.invokevirtual 35, 3) := by decide +kernel
theorem dX4_mayStep_43 : decode cX4_mayStep 43 = .ok (.iload 4, 2) := by decide +kernel
theorem dX4_mayStep_45 : decode cX4_mayStep 45 = .ok (.invokevirtual 46, 3) := by decide +kernel
theorem dX4_mayStep_48 : decode cX4_mayStep 48 = .ok (.ifCond .ne 5, 3) := by decide +kernel
theorem dX4_mayStep_51 : decode cX4_mayStep 51 = .ok (.iconst 0, 1) := by decide +kernel
theorem dX4_mayStep_52 : decode cX4_mayStep 52 = .ok (.ireturn, 1) := by decide +kernel
theorem dX4_mayStep_53 : decode cX4_mayStep 53 = .ok (.aload_n 1, 1) := by decide +kernel
theorem dX4_mayStep_54 : decode cX4_mayStep 54 = .ok (.iload_n 2, 1) := by decide +kernel
theorem dX4_mayStep_55 : decode cX4_mayStep 55 = .ok (.iload_n 3, 1) := by decide +kernel
theorem dX4_mayStep_56 : decode cX4_mayStep 56 = .ok (.iload 4, 2) := by decide +kernel
theorem dX4_mayStep_58 : decode cX4_mayStep 58 = .ok (.invokevirtual 49, 3) := by decide +kernel
theorem dX4_mayStep_61 : decode cX4_mayStep 61 = .ok (.ifCond .ne 7, 3) := by decide +kernel
theorem dX4_mayStep_64 : decode cX4_mayStep 64 = .ok (.iconst 1, 1) := by decide +kernel
theorem dX4_mayStep_65 : decode cX4_mayStep 65 = .ok (.goto 4, 3) := by decide +kernel
theorem dX4_mayStep_68 : decode cX4_mayStep 68 = .ok (.iconst 0, 1) := by decide +kernel
theorem dX4_mayStep_69 : decode cX4_mayStep 69 = .ok (.ireturn, 1) := by decide +kernel
theorem dX4_mayStand_0 : decode cX4_mayStand 0 = .ok (.aload_n 1, 1) := by decide +kernel
theorem dX4_mayStand_1 : decode cX4_mayStand 1 = .ok (.getfield 55, 3) := by decide +kernel
theorem dX4_mayStand_4 : decode cX4_mayStand 4 = .ok (.iconst 1, 1) := by decide +kernel
theorem dX4_mayStand_5 : decode cX4_mayStand 5 = .ok (.if_icmp .ne 23, 3) := by decide +kernel
theorem dX4_mayStand_8 : decode cX4_mayStand 8 = .ok (.aload_n 0, 1) := by decide +kernel
theorem dX4_mayStand_9 : decode cX4_mayStand 9 = .ok (.aload_n 1, 1) := by decide +kernel
theorem dX4_mayStand_10 : decode cX4_mayStand 10 = .ok (.getfield 58, 3) := by decide +kernel
theorem dX4_mayStand_13 : decode cX4_mayStand 13 = .ok (.invokevirtual 35, 3) := by decide +kernel
theorem dX4_mayStand_16 : decode cX4_mayStand 16 = .ok (.aload_n 1, 1) := by decide +kernel
theorem dX4_mayStand_17 : decode cX4_mayStand 17 = .ok (.getfield 61, 3) := by decide +kernel
theorem dX4_mayStand_20 : decode cX4_mayStand 20 = .ok (.aload_n 1, 1) := by decide +kernel
theorem dX4_mayStand_21 : decode cX4_mayStand 21 = .ok (.getfield 64, 3) := by decide +kernel
theorem dX4_mayStand_24 : decode cX4_mayStand 24 = .ok (.invokevirtual 67, 3) := by decide +kernel
theorem dX4_mayStand_27 : decode cX4_mayStand 27 = .ok (.ireturn, 1) := by decide +kernel
theorem dX4_mayStand_28 : decode cX4_mayStand 28 = .ok (.aload_n 1, 1) := by decide +kernel
theorem dX4_mayStand_29 : decode cX4_mayStand 29 = .ok (.getfield 55, 3) := by decide +kernel
theorem dX4_mayStand_32 : decode cX4_mayStand 32 = .ok (.iconst 2, 1) := by decide +kernel
theorem dX4_mayStand_33 : decode cX4_mayStand 33 = .ok (.if_icmp .ne 23, 3) := by decide +kernel
theorem dX4_mayStand_36 : decode cX4_mayStand 36 = .ok (.aload_n 0, 1) := by decide +kernel
theorem dX4_mayStand_37 : decode cX4_mayStand 37 = .ok (.aload_n 1, 1) := by decide +kernel
theorem dX4_mayStand_38 : decode cX4_mayStand 38 = .ok (.getfield 58, 3) := by decide +kernel
theorem dX4_mayStand_41 : decode cX4_mayStand 41 = .ok (.invokevirtual 35, 3) := by decide +kernel
theorem dX4_mayStand_44 : decode cX4_mayStand 44 = .ok (.aload_n 1, 1) := by decide +kernel
theorem dX4_mayStand_45 : decode cX4_mayStand 45 = .ok (.getfield 61, 3) := by decide +kernel
theorem dX4_mayStand_48 : decode cX4_mayStand 48 = .ok (.aload_n 1, 1) := by decide +kernel
theorem dX4_mayStand_49 : decode cX4_mayStand 49 = .ok (.getfield 64, 3) := by decide +kernel
theorem dX4_mayStand_52 : decode cX4_mayStand 52 = .ok (.invokevirtual 71, 3) := by decide +kernel
theorem dX4_mayStand_55 : decode cX4_mayStand 55 = .ok (.ireturn, 1) := by decide +kernel
theorem dX4_mayStand_56 : decode cX4_mayStand 56 = .ok (.aload_n 0, 1) := by decide +kernel
theorem dX4_mayStand_57 : decode cX4_mayStand 57 = .ok (.aload_n 1, 1) := by decide +kernel
theorem dX4_mayStand_58 : decode cX4_mayStand 58 = .ok (.invokevirtual 74, 3) := by decide +kernel
theorem dX4_mayStand_61 : decode cX4_mayStand 61 = .ok (.ireturn, 1) := by decide +kernel
theorem dX4_mayStandAsRaid_0 : decode cX4_mayStandAsRaid 0 = .ok (.aload_n 0, 1) := by decide +kernel
theorem dX4_mayStandAsRaid_1 : decode cX4_mayStandAsRaid 1 = .ok (.aload_n 0, 1) := by decide +kernel
theorem dX4_mayStandAsRaid_2 : decode cX4_mayStandAsRaid 2 = .ok (.invokevirtual 31, 3) := by decide +kernel
theorem dX4_mayStandAsRaid_5 : decode cX4_mayStandAsRaid 5 = .ok (.invokevirtual 35, 3) := by decide +kernel
theorem dX4_mayStandAsRaid_8 : decode cX4_mayStandAsRaid 8 = .ok (.aload_n 1, 1) := by decide +kernel
theorem dX4_mayStandAsRaid_9 : decode cX4_mayStandAsRaid 9 = .ok (.getfield 61, 3) := by decide +kernel
theorem dX4_mayStandAsRaid_12 : decode cX4_mayStandAsRaid 12 = .ok (.invokevirtual 46, 3) := by decide +kernel
theorem dX4_mayStandAsRaid_15 : decode cX4_mayStandAsRaid 15 = .ok (.ifCond .ne 5, 3) := by decide +kernel
theorem dX4_mayStandAsRaid_18 : decode cX4_mayStandAsRaid 18 = .ok (.iconst 0, 1) := by decide +kernel
theorem dX4_mayStandAsRaid_19 : decode cX4_mayStandAsRaid 19 = .ok (.ireturn, 1) := by decide +kernel
theorem dX4_mayStandAsRaid_20 : decode cX4_mayStandAsRaid 20 = .ok (.iconst 0, 1) := by decide +kernel
theorem dX4_mayStandAsRaid_21 : decode cX4_mayStandAsRaid 21 = .ok (.istore_n 2, 1) := by decide +kernel
theorem dX4_mayStandAsRaid_22 : decode cX4_mayStandAsRaid 22 = .ok (.iload_n 2, 1) := by decide +kernel
theorem dX4_mayStandAsRaid_23 : decode cX4_mayStandAsRaid 23 = .ok (.aload_n 1, 1) := by decide +kernel
theorem dX4_mayStandAsRaid_24 : decode cX4_mayStandAsRaid 24 = .ok (.getfield 78, 3) := by decide +kernel
theorem dX4_mayStandAsRaid_27 : decode cX4_mayStandAsRaid 27 = .ok (.if_icmp .ge 41, 3) := by decide +kernel
theorem dX4_mayStandAsRaid_30 : decode cX4_mayStandAsRaid 30 = .ok (.iload_n 2, 1) := by decide +kernel
theorem dX4_mayStandAsRaid_31 : decode cX4_mayStandAsRaid 31 = .ok (.bipush 10, 2) := by decide +kernel
theorem dX4_mayStandAsRaid_33 : decode cX4_mayStandAsRaid 33 = .ok (.if_icmp .ge 35, 3) := by decide +kernel
theorem dX4_mayStandAsRaid_36 : decode cX4_mayStandAsRaid 36 = .ok (.aload_n 0, 1) := by decide +kernel
theorem dX4_mayStandAsRaid_37 : decode cX4_mayStandAsRaid 37 = .ok (.aload_n 1, 1) := by decide +kernel
theorem dX4_mayStandAsRaid_38 : decode cX4_mayStandAsRaid 38 = .ok (.iload_n 2, 1) := by decide +kernel
theorem dX4_mayStandAsRaid_39 : decode cX4_mayStandAsRaid 39 = .ok (.aload_n 1, 1) := by decide +kernel
theorem dX4_mayStandAsRaid_40 : decode cX4_mayStandAsRaid 40 = .ok (.iload_n 2, 1) := by decide +kernel
theorem dX4_mayStandAsRaid_41 : decode cX4_mayStandAsRaid 41 = .ok (.invokevirtual 81, 3) := by decide +kernel
theorem dX4_mayStandAsRaid_44 : decode cX4_mayStandAsRaid 44 = .ok (.aload_n 1, 1) := by decide +kernel
theorem dX4_mayStandAsRaid_45 : decode cX4_mayStandAsRaid 45 = .ok (.iload_n 2, 1) := by decide +kernel
theorem dX4_mayStandAsRaid_46 : decode cX4_mayStandAsRaid 46 = .ok (.invokevirtual 85, 3) := by decide +kernel
theorem dX4_mayStandAsRaid_49 : decode cX4_mayStandAsRaid 49 = .ok (.aload_n 1, 1) := by decide +kernel
theorem dX4_mayStandAsRaid_50 : decode cX4_mayStandAsRaid 50 = .ok (.iload_n 2, 1) := by decide +kernel
theorem dX4_mayStandAsRaid_51 : decode cX4_mayStandAsRaid 51 = .ok (.invokevirtual 88, 3) := by decide +kernel
theorem dX4_mayStandAsRaid_54 : decode cX4_mayStandAsRaid 54 = .ok (.invokevirtual 91, 3) := by decide +kernel
theorem dX4_mayStandAsRaid_57 : decode cX4_mayStandAsRaid 57 = .ok (.ifCond .ne 5, 3) := by decide +kernel
theorem dX4_mayStandAsRaid_60 : decode cX4_mayStandAsRaid 60 = .ok (.iconst 0, 1) := by decide +kernel
theorem dX4_mayStandAsRaid_61 : decode cX4_mayStandAsRaid 61 = .ok (.ireturn, 1) := by decide +kernel
theorem dX4_mayStandAsRaid_62 : decode cX4_mayStandAsRaid 62 = .ok (.iinc 2 1, 3) := by decide +kernel
theorem dX4_mayStandAsRaid_65 : decode cX4_mayStandAsRaid 65 = .ok (.goto (-43), 3) := by decide +kernel
theorem dX4_mayStandAsRaid_68 : decode cX4_mayStandAsRaid 68 = .ok (.iconst 1, 1) := by decide +kernel
theorem dX4_mayStandAsRaid_69 : decode cX4_mayStandAsRaid 69 = .ok (.ireturn, 1) := by decide +kernel
theorem dX4_play_0 : decode cX4_play 0 = .ok (.aload_n 1, 1) := by decide +kernel
theorem dX4_play_1 : decode cX4_play 1 = .ok (.getfield 55, 3) := by decide +kernel
theorem dX4_play_4 : decode cX4_play 4 = .ok (.iconst 1, 1) := by decide +kernel
theorem dX4_play_5 : decode cX4_play 5 = .ok (.if_icmp .ne 11, 3) := by decide +kernel
theorem dX4_play_8 : decode cX4_play 8 = .ok (.aload_n 0, 1) := by decide +kernel
theorem dX4_play_9 : decode cX4_play 9 = .ok (.aload_n 1, 1) := by decide +kernel
theorem dX4_play_10 : decode cX4_play 10 = .ok (.invokevirtual 95, 3) := by decide +kernel
theorem dX4_play_13 : decode cX4_play 13 = .ok (.goto 38, 3) := by decide +kernel
theorem dX4_play_16 : decode cX4_play 16 = .ok (.aload_n 1, 1) := by decide +kernel
theorem dX4_play_17 : decode cX4_play 17 = .ok (.getfield 55, 3) := by decide +kernel
theorem dX4_play_20 : decode cX4_play 20 = .ok (.iconst 2, 1) := by decide +kernel
theorem dX4_play_21 : decode cX4_play 21 = .ok (.if_icmp .ne 25, 3) := by decide +kernel
theorem dX4_play_24 : decode cX4_play 24 = .ok (.aload_n 0, 1) := by decide +kernel
theorem dX4_play_25 : decode cX4_play 25 = .ok (.aload_n 1, 1) := by decide +kernel
theorem dX4_play_26 : decode cX4_play 26 = .ok (.getfield 58, 3) := by decide +kernel
theorem dX4_play_29 : decode cX4_play 29 = .ok (.invokevirtual 35, 3) := by decide +kernel
theorem dX4_play_32 : decode cX4_play 32 = .ok (.aload_n 1, 1) := by decide +kernel
theorem dX4_play_33 : decode cX4_play 33 = .ok (.getfield 61, 3) := by decide +kernel
theorem dX4_play_36 : decode cX4_play 36 = .ok (.aload_n 1, 1) := by decide +kernel
theorem dX4_play_37 : decode cX4_play 37 = .ok (.getfield 64, 3) := by decide +kernel
theorem dX4_play_40 : decode cX4_play 40 = .ok (.invokevirtual 99, 3) := by decide +kernel
theorem dX4_play_43 : decode cX4_play 43 = .ok (.goto 8, 3) := by decide +kernel
theorem dX4_play_46 : decode cX4_play 46 = .ok (.aload_n 0, 1) := by decide +kernel
theorem dX4_play_47 : decode cX4_play 47 = .ok (.aload_n 1, 1) := by decide +kernel
theorem dX4_play_48 : decode cX4_play 48 = .ok (.invokevirtual 103, 3) := by decide +kernel
theorem dX4_play_51 : decode cX4_play 51 = .ok (.return_, 1) := by decide +kernel
theorem dX4_playCard_0 : decode cX4_playCard 0 = .ok (.aload_n 0, 1) := by decide +kernel
theorem dX4_playCard_1 : decode cX4_playCard 1 = .ok (.aload_n 1, 1) := by decide +kernel
theorem dX4_playCard_2 : decode cX4_playCard 2 = .ok (.getfield 58, 3) := by decide +kernel
theorem dX4_playCard_5 : decode cX4_playCard 5 = .ok (.invokevirtual 35, 3) := by decide +kernel
theorem dX4_playCard_8 : decode cX4_playCard 8 = .ok (.astore_n 2, 1) := by decide +kernel
theorem dX4_playCard_9 : decode cX4_playCard 9 = .ok (.aload_n 2, 1) := by decide +kernel
theorem dX4_playCard_10 : decode cX4_playCard 10 = .ok (.aload_n 1, 1) := by decide +kernel
theorem dX4_playCard_11 : decode cX4_playCard 11 = .ok (.getfield 61, 3) := by decide +kernel
theorem dX4_playCard_14 : decode cX4_playCard 14 = .ok (.aload_n 1, 1) := by decide +kernel
theorem dX4_playCard_15 : decode cX4_playCard 15 = .ok (.getfield 64, 3) := by decide +kernel
theorem dX4_playCard_18 : decode cX4_playCard 18 = .ok (.invokevirtual 106, 3) := by decide +kernel
theorem dX4_playCard_21 : decode cX4_playCard 21 = .ok (.istore_n 3, 1) := by decide +kernel
theorem dX4_playCard_22 : decode cX4_playCard 22 = .ok (.aload_n 2, 1) := by decide +kernel
theorem dX4_playCard_23 : decode cX4_playCard 23 = .ok (.aload_n 1, 1) := by decide +kernel
theorem dX4_playCard_24 : decode cX4_playCard 24 = .ok (.getfield 61, 3) := by decide +kernel
theorem dX4_playCard_27 : decode cX4_playCard 27 = .ok (.iload_n 3, 1) := by decide +kernel
theorem dX4_playCard_28 : decode cX4_playCard 28 = .ok (.aload_n 0, 1) := by decide +kernel
theorem dX4_playCard_29 : decode cX4_playCard 29 = .ok (.getfield 24, 3) := by decide +kernel
theorem dX4_playCard_32 : decode cX4_playCard 32 = .ok (.invokevirtual 110, 3) := by decide +kernel
theorem dX4_playCard_35 : decode cX4_playCard 35 = .ok (.iload_n 3, 1) := by decide +kernel
