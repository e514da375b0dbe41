theorem dHi_init_0 : decode cHi_init 0 = .ok (.aload_n 0, 1) := by decide +kernel
theorem dHi_init_1 : decode cHi_init 1 = .ok (.invokespecial 3, 3) := by decide +kernel
theorem dHi_init_4 : decode cHi_init 4 = .ok (.aload_n 0, 1) := by decide +kernel
theorem dHi_init_5 : decode cHi_init 5 = .ok (.bipush 12, 2) := by decide +kernel
theorem dHi_init_7 : decode cHi_init 7 = .ok (.newarray .int, 2) := by decide +kernel
theorem dHi_init_9 : decode cHi_init 9 = .ok (.putfield 9, 3) := by decide +kernel
theorem dHi_init_12 : decode cHi_init 12 = .ok (.aload_n 0, 1) := by decide +kernel
theorem dHi_init_13 : decode cHi_init 13 = .ok (.bipush 12, 2) := by decide +kernel
theorem dHi_init_15 : decode cHi_init 15 = .ok (.newarray .int, 2) := by decide +kernel
theorem dHi_init_17 : decode cHi_init 17 = .ok (.putfield 15, 3) := by decide +kernel
theorem dHi_init_20 : decode cHi_init 20 = .ok (.aload_n 0, 1) := by decide +kernel
theorem dHi_init_21 : decode cHi_init 21 = .ok (.bipush 12, 2) := by decide +kernel
theorem dHi_init_23 : decode cHi_init 23 = .ok (.newarray .int, 2) := by decide +kernel
theorem dHi_init_25 : decode cHi_init 25 = .ok (.putfield 18, 3) := by decide +kernel
theorem dHi_init_28 : decode cHi_init 28 = .ok (.aload_n 0, 1) := by decide +kernel
theorem dHi_init_29 : decode cHi_init 29 = .ok (.iconst 4, 1) := by decide +kernel
theorem dHi_init_30 : decode cHi_init 30 = .ok (.newarray .int, 2) := by decide +kernel
theorem dHi_init_32 : decode cHi_init 32 = .ok (.dup, 1) := by decide +kernel
theorem dHi_init_33 : decode cHi_init 33 = .ok (.iconst 0, 1) := by decide +kernel
theorem dHi_init_34 : decode cHi_init 34 = .ok (.iconst (-1), 1) := by decide +kernel
theorem dHi_init_35 : decode cHi_init 35 = .ok (.iastore, 1) := by decide +kernel
theorem dHi_init_36 : decode cHi_init 36 = .ok (.dup, 1) := by decide +kernel
theorem dHi_init_37 : decode cHi_init 37 = .ok (.iconst 1, 1) := by decide +kernel
theorem dHi_init_38 : decode cHi_init 38 = .ok (.iconst (-1), 1) := by decide +kernel
theorem dHi_init_39 : decode cHi_init 39 = .ok (.iastore, 1) := by decide +kernel
theorem dHi_init_40 : decode cHi_init 40 = .ok (.dup, 1) := by decide +kernel
theorem dHi_init_41 : decode cHi_init 41 = .ok (.iconst 2, 1) := by decide +kernel
theorem dHi_init_42 : decode cHi_init 42 = .ok (.iconst (-1), 1) := by decide +kernel
theorem dHi_init_43 : decode cHi_init 43 = .ok (.iastore, 1) := by decide +kernel
theorem dHi_init_44 : decode cHi_init 44 = .ok (.dup, 1) := by decide +kernel
theorem dHi_init_45 : decode cHi_init 45 = .ok (.iconst 3, 1) := by decide +kernel
theorem dHi_init_46 : decode cHi_init 46 = .ok (.iconst (-1), 1) := by decide +kernel
theorem dHi_init_47 : decode cHi_init 47 = .ok (.iastore, 1) := by decide +kernel
theorem dHi_init_48 : decode cHi_init 48 = .ok (.putfield 21, 3) := by decide +kernel
theorem dHi_init_51 : decode cHi_init 51 = .ok (.return_, 1) := by decide +kernel
theorem dJo_init_0 : decode cJo_init 0 = .ok (.aload_n 0, 1) := by decide +kernel
theorem dJo_init_1 : decode cJo_init 1 = .ok (.invokespecial 3, 3) := by decide +kernel
theorem dJo_init_4 : decode cJo_init 4 = .ok (.aload_n 0, 1) := by decide +kernel
theorem dJo_init_5 : decode cJo_init 5 = .ok (.iload_n 1, 1) := by decide +kernel
theorem dJo_init_6 : decode cJo_init 6 = .ok (.putfield 9, 3) := by decide +kernel
theorem dJo_init_9 : decode cJo_init 9 = .ok (.aload_n 0, 1) := by decide +kernel
theorem dJo_init_10 : decode cJo_init 10 = .ok (.iload_n 2, 1) := by decide +kernel
theorem dJo_init_11 : decode cJo_init 11 = .ok (.putfield 15, 3) := by decide +kernel
theorem dJo_init_14 : decode cJo_init 14 = .ok (.aload_n 0, 1) := by decide +kernel
theorem dJo_init_15 : decode cJo_init 15 = .ok (.iload_n 3, 1) := by decide +kernel
theorem dJo_init_16 : decode cJo_init 16 = .ok (.putfield 18, 3) := by decide +kernel
theorem dJo_init_19 : decode cJo_init 19 = .ok (.aload_n 0, 1) := by decide +kernel
theorem dJo_init_20 : decode cJo_init 20 = .ok (.iload 4, 2) := by decide +kernel
theorem dJo_init_22 : decode cJo_init 22 = .ok (.putfield 21, 3) := by decide +kernel
theorem dJo_init_25 : decode cJo_init 25 = .ok (.aload_n 0, 1) := by decide +kernel
theorem dJo_init_26 : decode cJo_init 26 = .ok (.iload 5, 2) := by decide +kernel
theorem dJo_init_28 : decode cJo_init 28 = .ok (.putfield 24, 3) := by decide +kernel
theorem dJo_init_31 : decode cJo_init 31 = .ok (.aload_n 0, 1) := by decide +kernel
theorem dJo_init_32 : decode cJo_init 32 = .ok (.lload 6, 2) := by decide +kernel
theorem dJo_init_34 : decode cJo_init 34 = .ok (.putfield 27, 3) := by decide +kernel
theorem dJo_init_37 : decode cJo_init 37 = .ok (.return_, 1) := by decide +kernel
theorem dPo_init_0 : decode cPo_init 0 = .ok (.aload_n 0, 1) := by decide +kernel
theorem dPo_init_1 : decode cPo_init 1 = .ok (.bipush 64, 2) := by decide +kernel
theorem dPo_init_3 : decode cPo_init 3 = .ok (.iload_n 1, 1) := by decide +kernel
theorem dPo_init_4 : decode cPo_init 4 = .ok (.iadd, 1) := by decide +kernel
theorem dPo_init_5 : decode cPo_init 5 = .ok (.iload_n 2, 1) := by decide +kernel
theorem dPo_init_6 : decode cPo_init 6 = .ok (.iload_n 3, 1) := by decide +kernel
theorem dPo_init_7 : decode cPo_init 7 = .ok (.iload 4, 2) := by decide +kernel
theorem dPo_init_9 : decode cPo_init 9 = .ok (.iconst 1, 1) := by decide +kernel
theorem dPo_init_10 : decode cPo_init 10 = .ok (.lconst 0, 1) := by decide +kernel
theorem dPo_init_11 : decode cPo_init 11 = .ok (.invokespecial 3, 3) := by decide +kernel
theorem dPo_init_14 : decode cPo_init 14 = .ok (.aload_n 0, 1) := by decide +kernel
theorem dPo_init_15 : decode cPo_init 15 = .ok (.iload_n 1, 1) := by decide +kernel
theorem dPo_init_16 : decode cPo_init 16 = .ok (.putfield 9, 3) := by decide +kernel
theorem dPo_init_19 : decode cPo_init 19 = .ok (.aload_n 0, 1) := by decide +kernel
theorem dPo_init_20 : decode cPo_init 20 = .ok (.aload 5, 2) := by decide +kernel
theorem dPo_init_22 : decode cPo_init 22 = .ok (.putfield 15, 3) := by decide +kernel
theorem dPo_init_25 : decode cPo_init 25 = .ok (.return_, 1) := by decide +kernel
theorem dRe_init_0 : decode cRe_init 0 = .ok (.aload_n 0, 1) := by decide +kernel
theorem dRe_init_1 : decode cRe_init 1 = .ok (.iload_n 1, 1) := by decide +kernel
theorem dRe_init_2 : decode cRe_init 2 = .ok (.iload_n 2, 1) := by decide +kernel
theorem dRe_init_3 : decode cRe_init 3 = .ok (.iload_n 3, 1) := by decide +kernel
theorem dRe_init_4 : decode cRe_init 4 = .ok (.iload 4, 2) := by decide +kernel
theorem dRe_init_6 : decode cRe_init 6 = .ok (.iload 5, 2) := by decide +kernel
theorem dRe_init_8 : decode cRe_init 8 = .ok (.lload 6, 2) := by decide +kernel
theorem dRe_init_10 : decode cRe_init 10 = .ok (.invokespecial 3, 3) := by decide +kernel
theorem dRe_init_13 : decode cRe_init 13 = .ok (.aload_n 0, 1) := by decide +kernel
theorem dRe_init_14 : decode cRe_init 14 = .ok (.iconst 0, 1) := by decide +kernel
theorem dRe_init_15 : decode cRe_init 15 = .ok (.putfield 9, 3) := by decide +kernel
theorem dRe_init_18 : decode cRe_init 18 = .ok (.return_, 1) := by decide +kernel
theorem dJo_isBroadcast_0 : decode cJo_isBroadcast 0 = .ok (.aload_n 0, 1) := by decide +kernel
theorem dJo_isBroadcast_1 : decode cJo_isBroadcast 1 = .ok (.getfield 15, 3) := by decide +kernel
theorem dJo_isBroadcast_4 : decode cJo_isBroadcast 4 = .ok (.ifCond .ne 7, 3) := by decide +kernel
theorem dJo_isBroadcast_7 : decode cJo_isBroadcast 7 = .ok (.iconst 1, 1) := by decide +kernel
theorem dJo_isBroadcast_8 : decode cJo_isBroadcast 8 = .ok (.goto 4, 3) := by decide +kernel
theorem dJo_isBroadcast_11 : decode cJo_isBroadcast 11 = .ok (.iconst 0, 1) := by decide +kernel
theorem dJo_isBroadcast_12 : decode cJo_isBroadcast 12 = .ok (.ireturn, 1) := by decide +kernel
theorem dRe_refuse_0 : decode cRe_refuse 0 = .ok (.aload_n 0, 1) := by decide +kernel
theorem dRe_refuse_1 : decode cRe_refuse 1 = .ok (.iconst 2, 1) := by decide +kernel
theorem dRe_refuse_2 : decode cRe_refuse 2 = .ok (.putfield 9, 3) := by decide +kernel
theorem dRe_refuse_5 : decode cRe_refuse 5 = .ok (.aload_n 0, 1) := by decide +kernel
theorem dRe_refuse_6 : decode cRe_refuse 6 = .ok (.iload_n 1, 1) := by decide +kernel
theorem dRe_refuse_7 : decode cRe_refuse 7 = .ok (.putfield 15, 3) := by decide +kernel
theorem dRe_refuse_10 : decode cRe_refuse 10 = .ok (.return_, 1) := by decide +kernel
theorem dHi_keep_0 : decode cHi_keep 0 = .ok (.iload_n 2, 1) := by decide +kernel
theorem dHi_keep_1 : decode cHi_keep 1 = .ok (.ifCond .lt 22, 3) := by decide +kernel
theorem dHi_keep_4 : decode cHi_keep 4 = .ok (.iload_n 2, 1) := by decide +kernel
theorem dHi_keep_5 : decode cHi_keep 5 = .ok (.aload_n 0, 1) := by decide +kernel
theorem dHi_keep_6 : decode cHi_keep 6 = .ok (.getfield 21, 3) := by decide +kernel
theorem dHi_keep_9 : decode cHi_keep 9 = .ok (.arraylength, 1) := by decide +kernel
theorem dHi_keep_10 : decode cHi_keep 10 = .ok (.if_icmp .ge 13, 3) := by decide +kernel
theorem dHi_keep_13 : decode cHi_keep 13 = .ok (.aload_n 0, 1) := by decide +kernel
theorem dHi_keep_14 : decode cHi_keep 14 = .ok (.getfield 21, 3) := by decide +kernel
theorem dHi_keep_17 : decode cHi_keep 17 = .ok (.iload_n 2, 1) := by decide +kernel
theorem dHi_keep_18 : decode cHi_keep 18 = .ok (.iaload, 1) := by decide +kernel
theorem dHi_keep_19 : decode cHi_keep 19 = .ok (.iload_n 3, 1) := by decide +kernel
theorem dHi_keep_20 : decode cHi_keep 20 = .ok (.if_icmp .ne 4, 3) := by decide +kernel
theorem dHi_keep_23 : decode cHi_keep 23 = .ok (.return_, 1) := by decide +kernel
theorem dHi_keep_24 : decode cHi_keep 24 = .ok (.aload_n 0, 1) := by decide +kernel
theorem dHi_keep_25 : decode cHi_keep 25 = .ok (.getfield 21, 3) := by decide +kernel
theorem dHi_keep_28 : decode cHi_keep 28 = .ok (.iload_n 2, 1) := by decide +kernel
theorem dHi_keep_29 : decode cHi_keep 29 = .ok (.iload_n 3, 1) := by decide +kernel
theorem dHi_keep_30 : decode cHi_keep 30 = .ok (.iastore, 1) := by decide +kernel
theorem dHi_keep_31 : decode cHi_keep 31 = .ok (.aload_n 0, 1) := by decide +kernel
theorem dHi_keep_32 : decode cHi_keep 32 = .ok (.getfield 24, 3) := by decide +kernel
theorem dHi_keep_35 : decode cHi_keep 35 = .ok (.aload_n 0, 1) := by decide +kernel
theorem dHi_keep_36 : decode cHi_keep 36 = .ok (.getfield 28, 3) := by decide +kernel
theorem dHi_keep_39 : decode cHi_keep 39 = .ok (.iadd, 1) := by decide +kernel
theorem dHi_keep_40 : decode cHi_keep 40 = .ok (.bipush 12, 2) := by decide +kernel
theorem dHi_keep_42 : decode cHi_keep 42 = .ok (.irem, 1) := by decide +kernel
theorem dHi_keep_43 : decode cHi_keep 43 = .ok (.istore 4, 2) := by decide +kernel
theorem dHi_keep_45 : decode cHi_keep 45 = .ok (.aload_n 0, 1) := by decide +kernel
theorem dHi_keep_46 : decode cHi_keep 46 = .ok (.getfield 9, 3) := by decide +kernel
theorem dHi_keep_49 : decode cHi_keep 49 = .ok (.iload 4, 2) := by decide +kernel
theorem dHi_keep_51 : decode cHi_keep 51 = .ok (.iload_n 1, 1) := by decide +kernel
theorem dHi_keep_52 : decode cHi_keep 52 = .ok (.iastore, 1) := by decide +kernel
theorem dHi_keep_53 : decode cHi_keep 53 = .ok (.aload_n 0, 1) := by decide +kernel
theorem dHi_keep_54 : decode cHi_keep 54 = .ok (.getfield 15, 3) := by decide +kernel
theorem dHi_keep_57 : decode cHi_keep 57 = .ok (.iload 4, 2) := by decide +kernel
theorem dHi_keep_59 : decode cHi_keep 59 = .ok (.iload_n 2, 1) := by decide +kernel
theorem dHi_keep_60 : decode cHi_keep 60 = .ok (.iastore, 1) := by decide +kernel
theorem dHi_keep_61 : decode cHi_keep 61 = .ok (.aload_n 0, 1) := by decide +kernel
theorem dHi_keep_62 : decode cHi_keep 62 = .ok (.getfield 18, 3) := by decide +kernel
theorem dHi_keep_65 : decode cHi_keep 65 = .ok (.iload 4, 2) := by decide +kernel
theorem dHi_keep_67 : decode cHi_keep 67 = .ok (.iload_n 3, 1) := by decide +kernel
theorem dHi_keep_68 : decode cHi_keep 68 = .ok (.iastore, 1) := by decide +kernel
theorem dHi_keep_69 : decode cHi_keep 69 = .ok (.aload_n 0, 1) := by decide +kernel
theorem dHi_keep_70 : decode cHi_keep 70 = .ok (.getfield 28, 3) := by decide +kernel
theorem dHi_keep_73 : decode cHi_keep 73 = .ok (.bipush 12, 2) := by decide +kernel
theorem dHi_keep_75 : decode cHi_keep 75 = .ok (.if_icmp .ge 16, 3) := by decide +kernel
theorem dHi_keep_78 : decode cHi_keep 78 = .ok (.aload_n 0, 1) := by decide +kernel
theorem dHi_keep_79 : decode cHi_keep 79 = .ok (.dup, 1) := by decide +kernel
theorem dHi_keep_80 : decode cHi_keep 80 = .ok (.getfield 28, 3) := by decide +kernel
theorem dHi_keep_83 : decode cHi_keep 83 = .ok (.iconst 1, 1) := by decide +kernel
theorem dHi_keep_84 : decode cHi_keep 84 = .ok (.iadd, 1) := by decide +kernel
theorem dHi_keep_85 : decode cHi_keep 85 = .ok (.putfield 28, 3) := by decide +kernel
theorem dHi_keep_88 : decode cHi_keep 88 = .ok (.goto 16, 3) := by decide +kernel
theorem dHi_keep_91 : decode cHi_keep 91 = .ok (.aload_n 0, 1) := by decide +kernel
theorem dHi_keep_92 : decode cHi_keep 92 = .ok (.aload_n 0, 1) := by decide +kernel
theorem dHi_keep_93 : decode cHi_keep 93 = .ok (.getfield 24, 3) := by decide +kernel
theorem dHi_keep_96 : decode cHi_keep 96 = .ok (.iconst 1, 1) := by decide +kernel
theorem dHi_keep_97 : decode cHi_keep 97 = .ok (.iadd, 1) := by decide +kernel
theorem dHi_keep_98 : decode cHi_keep 98 = .ok (.bipush 12, 2) := by decide +kernel
theorem dHi_keep_100 : decode cHi_keep 100 = .ok (.irem, 1) := by decide +kernel
theorem dHi_keep_101 : decode cHi_keep 101 = .ok (.putfield 24, 3) := by decide +kernel
theorem dHi_keep_104 : decode cHi_keep 104 = .ok (.return_, 1) := by decide +kernel
theorem dPo_take_0 : decode cPo_take 0 = .ok (.aload_n 1, 1) := by decide +kernel
theorem dPo_take_1 : decode cPo_take 1 = .ok (.iconst 1, 1) := by decide +kernel
theorem dPo_take_2 : decode cPo_take 2 = .ok (.invokevirtual 19, 3) := by decide +kernel
theorem dPo_take_5 : decode cPo_take 5 = .ok (.sipush 128, 3) := by decide +kernel
theorem dPo_take_8 : decode cPo_take 8 = .ok (.if_icmp .ge 20, 3) := by decide +kernel
theorem dPo_take_11 : decode cPo_take 11 = .ok (.aload_n 0, 1) := by decide +kernel
theorem dPo_take_12 : decode cPo_take 12 = .ok (.getfield 15, 3) := by decide +kernel
theorem dPo_take_15 : decode cPo_take 15 = .ok (.iload_n 2, 1) := by decide +kernel
theorem dPo_take_16 : decode cPo_take 16 = .ok (.aload_n 0, 1) := by decide +kernel
theorem dPo_take_17 : decode cPo_take 17 = .ok (.getfield 9, 3) := by decide +kernel
theorem dPo_take_20 : decode cPo_take 20 = .ok (.aload_n 1, 1) := by decide +kernel
theorem dPo_take_21 : decode cPo_take 21 = .ok (.iconst 3, 1) := by decide +kernel
theorem dPo_take_22 : decode cPo_take 22 = .ok (.invokevirtual 25, 3) := by decide +kernel
theorem dPo_take_25 : decode cPo_take 25 = .ok (.invokevirtual 28, 3) := by decide +kernel
theorem dPo_take_28 : decode cPo_take 28 = .ok (.return_, 1) := by decide +kernel
theorem dJo_bitBytes_0 : decode cJo_bitBytes 0 = .ok (.aload_n 0, 1) := by decide +kernel
theorem dJo_bitBytes_1 : decode cJo_bitBytes 1 = .ok (.getfield 24, 3) := by decide +kernel
theorem dJo_bitBytes_4 : decode cJo_bitBytes 4 = .ok (.bipush 7, 2) := by decide +kernel
theorem dJo_bitBytes_6 : decode cJo_bitBytes 6 = .ok (.iadd, 1) := by decide +kernel
theorem dJo_bitBytes_7 : decode cJo_bitBytes 7 = .ok (.bipush 8, 2) := by decide +kernel
theorem dJo_bitBytes_9 : decode cJo_bitBytes 9 = .ok (.idiv, 1) := by decide +kernel
theorem dJo_bitBytes_10 : decode cJo_bitBytes 10 = .ok (.ireturn, 1) := by decide +kernel
theorem dRe_readBits_0 : decode cRe_readBits 0 = .ok (.lconst 0, 1) := by decide +kernel
theorem dRe_readBits_1 : decode cRe_readBits 1 = .ok (.lstore_n 2, 1) := by decide +kernel
theorem dRe_readBits_2 : decode cRe_readBits 2 = .ok (.iconst 0, 1) := by decide +kernel
theorem dRe_readBits_3 : decode cRe_readBits 3 = .ok (.istore 4, 2) := by decide +kernel
theorem dRe_readBits_5 : decode cRe_readBits 5 = .ok (.iload 4, 2) := by decide +kernel
theorem dRe_readBits_7 : decode cRe_readBits 7 = .ok (.aload_n 0, 1) := by decide +kernel
theorem dRe_readBits_8 : decode cRe_readBits 8 = .ok (.invokevirtual 48, 3) := by decide +kernel
theorem dRe_readBits_11 : decode cRe_readBits 11 = .ok (.if_icmp .ge 27, 3) := by decide +kernel
theorem dRe_readBits_14 : decode cRe_readBits 14 = .ok (.lload_n 2, 1) := by decide +kernel
theorem dRe_readBits_15 : decode cRe_readBits 15 = .ok (.aload_n 1, 1) := by decide +kernel
theorem dRe_readBits_16 : decode cRe_readBits 16 = .ok (.iconst 3, 1) := by decide +kernel
theorem dRe_readBits_17 : decode cRe_readBits 17 = .ok (.iload 4, 2) := by decide +kernel
theorem dRe_readBits_19 : decode cRe_readBits 19 = .ok (.iadd, 1) := by decide +kernel
theorem dRe_readBits_20 : decode cRe_readBits 20 = .ok (.invokevirtual 18, 3) := by decide +kernel
theorem dRe_readBits_23 : decode cRe_readBits 23 = .ok (.i2l, 1) := by decide +kernel
theorem dRe_readBits_24 : decode cRe_readBits 24 = .ok (.bipush 8, 2) := by decide +kernel
theorem dRe_readBits_26 : decode cRe_readBits 26 = .ok (.iload 4, 2) := by decide +kernel
theorem dRe_readBits_28 : decode cRe_readBits 28 = .ok (.imul, 1) := by decide +kernel
theorem dRe_readBits_29 : decode cRe_readBits 29 = .ok (.lshl, 1) := by decide +kernel
theorem dRe_readBits_30 : decode cRe_readBits 30 = .ok (.lor, 1) := by decide +kernel
theorem dRe_readBits_31 : decode cRe_readBits 31 = .ok (.lstore_n 2, 1) := by decide +kernel
theorem dRe_readBits_32 : decode cRe_readBits 32 = .ok (.iinc 4 1, 3) := by decide +kernel
theorem dRe_readBits_35 : decode cRe_readBits 35 = .ok (.goto (-30), 3) := by decide +kernel
theorem dRe_readBits_38 : decode cRe_readBits 38 = .ok (.lload_n 2, 1) := by decide +kernel
theorem dRe_readBits_39 : decode cRe_readBits 39 = .ok (.lreturn, 1) := by decide +kernel
theorem dRe_readWords_0 : decode cRe_readWords 0 = .ok (.lconst 0, 1) := by decide +kernel
theorem dRe_readWords_1 : decode cRe_readWords 1 = .ok (.lstore_n 2, 1) := by decide +kernel
theorem dRe_readWords_2 : decode cRe_readWords 2 = .ok (.iconst 0, 1) := by decide +kernel
theorem dRe_readWords_3 : decode cRe_readWords 3 = .ok (.istore 4, 2) := by decide +kernel
theorem dRe_readWords_5 : decode cRe_readWords 5 = .ok (.iload 4, 2) := by decide +kernel
theorem dRe_readWords_7 : decode cRe_readWords 7 = .ok (.aload_n 0, 1) := by decide +kernel
theorem dRe_readWords_8 : decode cRe_readWords 8 = .ok (.getfield 52, 3) := by decide +kernel
theorem dRe_readWords_11 : decode cRe_readWords 11 = .ok (.if_icmp .ge 29, 3) := by decide +kernel
theorem dRe_readWords_14 : decode cRe_readWords 14 = .ok (.lload_n 2, 1) := by decide +kernel
theorem dRe_readWords_15 : decode cRe_readWords 15 = .ok (.aload_n 1, 1) := by decide +kernel
theorem dRe_readWords_16 : decode cRe_readWords 16 = .ok (.iconst 3, 1) := by decide +kernel
theorem dRe_readWords_17 : decode cRe_readWords 17 = .ok (.iconst 2, 1) := by decide +kernel
theorem dRe_readWords_18 : decode cRe_readWords 18 = .ok (.iload 4, 2) := by decide +kernel
theorem dRe_readWords_20 : decode cRe_readWords 20 = .ok (.imul, 1) := by decide +kernel
theorem dRe_readWords_21 : decode cRe_readWords 21 = .ok (.iadd, 1) := by decide +kernel
theorem dRe_readWords_22 : decode cRe_readWords 22 = .ok (.invokevirtual 45, 3) := by decide +kernel
theorem dRe_readWords_25 : decode cRe_readWords 25 = .ok (.i2l, 1) := by decide +kernel
theorem dRe_readWords_26 : decode cRe_readWords 26 = .ok (.bipush 16, 2) := by decide +kernel
theorem dRe_readWords_28 : decode cRe_readWords 28 = .ok (.iload 4, 2) := by decide +kernel
theorem dRe_readWords_30 : decode cRe_readWords 30 = .ok (.imul, 1) := by decide +kernel
theorem dRe_readWords_31 : decode cRe_readWords 31 = .ok (.lshl, 1) := by decide +kernel
theorem dRe_readWords_32 : decode cRe_readWords 32 = .ok (.lor, 1) := by decide +kernel
theorem dRe_readWords_33 : decode cRe_readWords 33 = .ok (.lstore_n 2, 1) := by decide +kernel
theorem dRe_readWords_34 : decode cRe_readWords 34 = .ok (.iinc 4 1, 3) := by decide +kernel
theorem dRe_readWords_37 : decode cRe_readWords 37 = .ok (.goto (-32), 3) := by decide +kernel
theorem dRe_readWords_40 : decode cRe_readWords 40 = .ok (.lload_n 2, 1) := by decide +kernel
theorem dRe_readWords_41 : decode cRe_readWords 41 = .ok (.lreturn, 1) := by decide +kernel
theorem dRe_read_0 : decode cRe_read 0 = .ok (.aload_n 0, 1) := by decide +kernel
theorem dRe_read_1 : decode cRe_read 1 = .ok (.getfield 36, 3) := by decide +kernel
theorem dRe_read_4 : decode cRe_read 4 = .ok (.lookupswitch 82 #[(1, 52), (2, 52), (3, 58), (4, 58), (22, 64)], 52) := by decide +kernel
theorem dRe_read_56 : decode cRe_read 56 = .ok (.aload_n 0, 1) := by decide +kernel
theorem dRe_read_57 : decode cRe_read 57 = .ok (.aload_n 1, 1) := by decide +kernel
theorem dRe_read_58 : decode cRe_read 58 = .ok (.invokevirtual 39, 3) := by decide +kernel
theorem dRe_read_61 : decode cRe_read 61 = .ok (.lreturn, 1) := by decide +kernel
theorem dRe_read_62 : decode cRe_read 62 = .ok (.aload_n 0, 1) := by decide +kernel
theorem dRe_read_63 : decode cRe_read 63 = .ok (.aload_n 1, 1) := by decide +kernel
theorem dRe_read_64 : decode cRe_read 64 = .ok (.invokevirtual 42, 3) := by decide +kernel
theorem dRe_read_67 : decode cRe_read 67 = .ok (.lreturn, 1) := by decide +kernel
theorem dRe_read_68 : decode cRe_read 68 = .ok (.aload_n 1, 1) := by decide +kernel
theorem dRe_read_69 : decode cRe_read 69 = .ok (.iconst 4, 1) := by decide +kernel
theorem dRe_read_70 : decode cRe_read 70 = .ok (.invokevirtual 45, 3) := by decide +kernel
theorem dRe_read_73 : decode cRe_read 73 = .ok (.i2l, 1) := by decide +kernel
theorem dRe_read_74 : decode cRe_read 74 = .ok (.aload_n 1, 1) := by decide +kernel
theorem dRe_read_75 : decode cRe_read 75 = .ok (.bipush 6, 2) := by decide +kernel
theorem dRe_read_77 : decode cRe_read 77 = .ok (.invokevirtual 45, 3) := by decide +kernel
theorem dRe_read_80 : decode cRe_read 80 = .ok (.i2l, 1) := by decide +kernel
theorem dRe_read_81 : decode cRe_read 81 = .ok (.bipush 16, 2) := by decide +kernel
theorem dRe_read_83 : decode cRe_read 83 = .ok (.lshl, 1) := by decide +kernel
theorem dRe_read_84 : decode cRe_read 84 = .ok (.lor, 1) := by decide +kernel
theorem dRe_read_85 : decode cRe_read 85 = .ok (.lreturn, 1) := by decide +kernel
theorem dRe_read_86 : decode cRe_read 86 = .ok (.aload_n 1, 1) := by decide +kernel
theorem dRe_read_87 : decode cRe_read 87 = .ok (.iconst 4, 1) := by decide +kernel
theorem dRe_read_88 : decode cRe_read 88 = .ok (.invokevirtual 45, 3) := by decide +kernel
theorem dRe_read_91 : decode cRe_read 91 = .ok (.i2l, 1) := by decide +kernel
theorem dRe_read_92 : decode cRe_read 92 = .ok (.lreturn, 1) := by decide +kernel
theorem dRe_take_0 : decode cRe_take 0 = .ok (.aload_n 1, 1) := by decide +kernel
theorem dRe_take_1 : decode cRe_take 1 = .ok (.iconst 1, 1) := by decide +kernel
theorem dRe_take_2 : decode cRe_take 2 = .ok (.invokevirtual 18, 3) := by decide +kernel
theorem dRe_take_5 : decode cRe_take 5 = .ok (.sipush 128, 3) := by decide +kernel
theorem dRe_take_8 : decode cRe_take 8 = .ok (.if_icmp .lt 15, 3) := by decide +kernel
theorem dRe_take_11 : decode cRe_take 11 = .ok (.aload_n 0, 1) := by decide +kernel
theorem dRe_take_12 : decode cRe_take 12 = .ok (.aload_n 1, 1) := by decide +kernel
theorem dRe_take_13 : decode cRe_take 13 = .ok (.iconst 2, 1) := by decide +kernel
theorem dRe_take_14 : decode cRe_take 14 = .ok (.invokevirtual 18, 3) := by decide +kernel
theorem dRe_take_17 : decode cRe_take 17 = .ok (.invokevirtual 24, 3) := by decide +kernel
theorem dRe_take_20 : decode cRe_take 20 = .ok (.goto 17, 3) := by decide +kernel
theorem dRe_take_23 : decode cRe_take 23 = .ok (.aload_n 0, 1) := by decide +kernel
theorem dRe_take_24 : decode cRe_take 24 = .ok (.iconst 1, 1) := by decide +kernel
theorem dRe_take_25 : decode cRe_take 25 = .ok (.putfield 9, 3) := by decide +kernel
theorem dRe_take_28 : decode cRe_take 28 = .ok (.aload_n 0, 1) := by decide +kernel
theorem dRe_take_29 : decode cRe_take 29 = .ok (.aload_n 0, 1) := by decide +kernel
theorem dRe_take_30 : decode cRe_take 30 = .ok (.aload_n 1, 1) := by decide +kernel
theorem dRe_take_31 : decode cRe_take 31 = .ok (.invokevirtual 28, 3) := by decide +kernel
theorem dRe_take_34 : decode cRe_take 34 = .ok (.putfield 32, 3) := by decide +kernel
theorem dRe_take_37 : decode cRe_take 37 = .ok (.return_, 1) := by decide +kernel
theorem dJo_word_0 : decode cJo_word 0 = .ok (.aload_n 0, 1) := by decide +kernel
theorem dJo_word_1 : decode cJo_word 1 = .ok (.getfield 27, 3) := by decide +kernel
theorem dJo_word_4 : decode cJo_word 4 = .ok (.bipush 16, 2) := by decide +kernel
theorem dJo_word_6 : decode cJo_word 6 = .ok (.iload_n 1, 1) := by decide +kernel
theorem dJo_word_7 : decode cJo_word 7 = .ok (.iconst 3, 1) := by decide +kernel
theorem dJo_word_8 : decode cJo_word 8 = .ok (.iand, 1) := by decide +kernel
theorem dJo_word_9 : decode cJo_word 9 = .ok (.imul, 1) := by decide +kernel
theorem dJo_word_10 : decode cJo_word 10 = .ok (.lushr, 1) := by decide +kernel
theorem dJo_word_11 : decode cJo_word 11 = .ok (.l2i, 1) := by decide +kernel
theorem dJo_word_12 : decode cJo_word 12 = .ok (.ldc 31, 2) := by decide +kernel
theorem dJo_word_14 : decode cJo_word 14 = .ok (.iand, 1) := by decide +kernel
theorem dJo_word_15 : decode cJo_word 15 = .ok (.ireturn, 1) := by decide +kernel
theorem dJo_addBits_0 : decode cJo_addBits 0 = .ok (.aload_n 0, 1) := by decide +kernel
theorem dJo_addBits_1 : decode cJo_addBits 1 = .ok (.getfield 27, 3) := by decide +kernel
theorem dJo_addBits_4 : decode cJo_addBits 4 = .ok (.lconst 1, 1) := by decide +kernel
theorem dJo_addBits_5 : decode cJo_addBits 5 = .ok (.aload_n 0, 1) := by decide +kernel
theorem dJo_addBits_6 : decode cJo_addBits 6 = .ok (.getfield 24, 3) := by decide +kernel
theorem dJo_addBits_9 : decode cJo_addBits 9 = .ok (.lshl, 1) := by decide +kernel
theorem dJo_addBits_10 : decode cJo_addBits 10 = .ok (.lconst 1, 1) := by decide +kernel
theorem dJo_addBits_11 : decode cJo_addBits 11 = .ok (.lsub, 1) := by decide +kernel
theorem dJo_addBits_12 : decode cJo_addBits 12 = .ok (.land, 1) := by decide +kernel
theorem dJo_addBits_13 : decode cJo_addBits 13 = .ok (.lstore_n 2, 1) := by decide +kernel
theorem dJo_addBits_14 : decode cJo_addBits 14 = .ok (.aload_n 1, 1) := by decide +kernel
theorem dJo_addBits_15 : decode cJo_addBits 15 = .ok (.aload_n 0, 1) := by decide +kernel
theorem dJo_addBits_16 : decode cJo_addBits 16 = .ok (.invokevirtual 65, 3) := by decide +kernel
theorem dJo_addBits_19 : decode cJo_addBits 19 = .ok (.invokevirtual 69, 3) := by decide +kernel
theorem dJo_addBits_22 : decode cJo_addBits 22 = .ok (.iconst 0, 1) := by decide +kernel
theorem dJo_addBits_23 : decode cJo_addBits 23 = .ok (.istore 4, 2) := by decide +kernel
theorem dJo_addBits_25 : decode cJo_addBits 25 = .ok (.iload 4, 2) := by decide +kernel
theorem dJo_addBits_27 : decode cJo_addBits 27 = .ok (.aload_n 0, 1) := by decide +kernel
theorem dJo_addBits_28 : decode cJo_addBits 28 = .ok (.invokevirtual 65, 3) := by decide +kernel
theorem dJo_addBits_31 : decode cJo_addBits 31 = .ok (.if_icmp .ge 21, 3) := by decide +kernel
theorem dJo_addBits_34 : decode cJo_addBits 34 = .ok (.aload_n 1, 1) := by decide +kernel
theorem dJo_addBits_35 : decode cJo_addBits 35 = .ok (.lload_n 2, 1) := by decide +kernel
theorem dJo_addBits_36 : decode cJo_addBits 36 = .ok (.bipush 8, 2) := by decide +kernel
theorem dJo_addBits_38 : decode cJo_addBits 38 = .ok (.iload 4, 2) := by decide +kernel
theorem dJo_addBits_40 : decode cJo_addBits 40 = .ok (.imul, 1) := by decide +kernel
theorem dJo_addBits_41 : decode cJo_addBits 41 = .ok (.lushr, 1) := by decide +kernel
theorem dJo_addBits_42 : decode cJo_addBits 42 = .ok (.l2i, 1) := by decide +kernel
theorem dJo_addBits_43 : decode cJo_addBits 43 = .ok (.invokevirtual 69, 3) := by decide +kernel
theorem dJo_addBits_46 : decode cJo_addBits 46 = .ok (.iinc 4 1, 3) := by decide +kernel
theorem dJo_addBits_49 : decode cJo_addBits 49 = .ok (.goto (-24), 3) := by decide +kernel
theorem dJo_addBits_52 : decode cJo_addBits 52 = .ok (.return_, 1) := by decide +kernel
theorem dJo_addWords_0 : decode cJo_addWords 0 = .ok (.aload_n 1, 1) := by decide +kernel
theorem dJo_addWords_1 : decode cJo_addWords 1 = .ok (.iconst 2, 1) := by decide +kernel
theorem dJo_addWords_2 : decode cJo_addWords 2 = .ok (.aload_n 0, 1) := by decide +kernel
theorem dJo_addWords_3 : decode cJo_addWords 3 = .ok (.getfield 24, 3) := by decide +kernel
theorem dJo_addWords_6 : decode cJo_addWords 6 = .ok (.imul, 1) := by decide +kernel
theorem dJo_addWords_7 : decode cJo_addWords 7 = .ok (.invokevirtual 69, 3) := by decide +kernel
theorem dJo_addWords_10 : decode cJo_addWords 10 = .ok (.iconst 0, 1) := by decide +kernel
theorem dJo_addWords_11 : decode cJo_addWords 11 = .ok (.istore_n 2, 1) := by decide +kernel
theorem dJo_addWords_12 : decode cJo_addWords 12 = .ok (.iload_n 2, 1) := by decide +kernel
theorem dJo_addWords_13 : decode cJo_addWords 13 = .ok (.aload_n 0, 1) := by decide +kernel
theorem dJo_addWords_14 : decode cJo_addWords 14 = .ok (.getfield 24, 3) := by decide +kernel
theorem dJo_addWords_17 : decode cJo_addWords 17 = .ok (.if_icmp .ge 18, 3) := by decide +kernel
theorem dJo_addWords_20 : decode cJo_addWords 20 = .ok (.aload_n 1, 1) := by decide +kernel
theorem dJo_addWords_21 : decode cJo_addWords 21 = .ok (.aload_n 0, 1) := by decide +kernel
theorem dJo_addWords_22 : decode cJo_addWords 22 = .ok (.iload_n 2, 1) := by decide +kernel
theorem dJo_addWords_23 : decode cJo_addWords 23 = .ok (.invokevirtual 36, 3) := by decide +kernel
theorem dJo_addWords_26 : decode cJo_addWords 26 = .ok (.invokevirtual 51, 3) := by decide +kernel
theorem dJo_addWords_29 : decode cJo_addWords 29 = .ok (.iinc 2 1, 3) := by decide +kernel
theorem dJo_addWords_32 : decode cJo_addWords 32 = .ok (.goto (-20), 3) := by decide +kernel
theorem dJo_addWords_35 : decode cJo_addWords 35 = .ok (.return_, 1) := by decide +kernel
theorem dJo_writeTo_0 : decode cJo_writeTo 0 = .ok (.aload_n 1, 1) := by decide +kernel
theorem dJo_writeTo_1 : decode cJo_writeTo 1 = .ok (.aload_n 0, 1) := by decide +kernel
theorem dJo_writeTo_2 : decode cJo_writeTo 2 = .ok (.getfield 15, 3) := by decide +kernel
theorem dJo_writeTo_5 : decode cJo_writeTo 5 = .ok (.aload_n 0, 1) := by decide +kernel
theorem dJo_writeTo_6 : decode cJo_writeTo 6 = .ok (.getfield 18, 3) := by decide +kernel
theorem dJo_writeTo_9 : decode cJo_writeTo 9 = .ok (.invokevirtual 45, 3) := by decide +kernel
theorem dJo_writeTo_12 : decode cJo_writeTo 12 = .ok (.aload_n 0, 1) := by decide +kernel
theorem dJo_writeTo_13 : decode cJo_writeTo 13 = .ok (.getfield 18, 3) := by decide +kernel
theorem dJo_writeTo_16 : decode cJo_writeTo 16 = .ok (.tableswitch 220 1 22 #[104, 104, 104, 104, 123, 123, 220, 123, 220, 220, 220, 220, 220, 220, 172, 196, 220, 220, 220, 220, 220, 143], 104) := by decide +kernel
theorem dJo_writeTo_120 : decode cJo_writeTo 120 = .ok (.aload_n 1, 1) := by decide +kernel
theorem dJo_writeTo_121 : decode cJo_writeTo 121 = .ok (.aload_n 0, 1) := by decide +kernel
theorem dJo_writeTo_122 : decode cJo_writeTo 122 = .ok (.getfield 21, 3) := by decide +kernel
theorem dJo_writeTo_125 : decode cJo_writeTo 125 = .ok (.invokevirtual 51, 3) := by decide +kernel
theorem dJo_writeTo_128 : decode cJo_writeTo 128 = .ok (.aload_n 1, 1) := by decide +kernel
theorem dJo_writeTo_129 : decode cJo_writeTo 129 = .ok (.aload_n 0, 1) := by decide +kernel
theorem dJo_writeTo_130 : decode cJo_writeTo 130 = .ok (.getfield 24, 3) := by decide +kernel
theorem dJo_writeTo_133 : decode cJo_writeTo 133 = .ok (.invokevirtual 51, 3) := by decide +kernel
theorem dJo_writeTo_136 : decode cJo_writeTo 136 = .ok (.goto 100, 3) := by decide +kernel
theorem dJo_writeTo_139 : decode cJo_writeTo 139 = .ok (.aload_n 1, 1) := by decide +kernel
theorem dJo_writeTo_140 : decode cJo_writeTo 140 = .ok (.aload_n 0, 1) := by decide +kernel
theorem dJo_writeTo_141 : decode cJo_writeTo 141 = .ok (.getfield 21, 3) := by decide +kernel
theorem dJo_writeTo_144 : decode cJo_writeTo 144 = .ok (.invokevirtual 51, 3) := by decide +kernel
theorem dJo_writeTo_147 : decode cJo_writeTo 147 = .ok (.aload_n 1, 1) := by decide +kernel
theorem dJo_writeTo_148 : decode cJo_writeTo 148 = .ok (.aload_n 0, 1) := by decide +kernel
theorem dJo_writeTo_149 : decode cJo_writeTo 149 = .ok (.iconst 0, 1) := by decide +kernel
theorem dJo_writeTo_150 : decode cJo_writeTo 150 = .ok (.invokevirtual 36, 3) := by decide +kernel
theorem dJo_writeTo_153 : decode cJo_writeTo 153 = .ok (.invokevirtual 51, 3) := by decide +kernel
theorem dJo_writeTo_156 : decode cJo_writeTo 156 = .ok (.goto 80, 3) := by decide +kernel
theorem dJo_writeTo_159 : decode cJo_writeTo 159 = .ok (.aload_n 1, 1) := by decide +kernel
theorem dJo_writeTo_160 : decode cJo_writeTo 160 = .ok (.aload_n 0, 1) := by decide +kernel
theorem dJo_writeTo_161 : decode cJo_writeTo 161 = .ok (.getfield 21, 3) := by decide +kernel
theorem dJo_writeTo_164 : decode cJo_writeTo 164 = .ok (.invokevirtual 51, 3) := by decide +kernel
theorem dJo_writeTo_167 : decode cJo_writeTo 167 = .ok (.aload_n 1, 1) := by decide +kernel
theorem dJo_writeTo_168 : decode cJo_writeTo 168 = .ok (.aload_n 0, 1) := by decide +kernel
theorem dJo_writeTo_169 : decode cJo_writeTo 169 = .ok (.iconst 0, 1) := by decide +kernel
theorem dJo_writeTo_170 : decode cJo_writeTo 170 = .ok (.invokevirtual 36, 3) := by decide +kernel
theorem dJo_writeTo_173 : decode cJo_writeTo 173 = .ok (.invokevirtual 51, 3) := by decide +kernel
theorem dJo_writeTo_176 : decode cJo_writeTo 176 = .ok (.aload_n 1, 1) := by decide +kernel
theorem dJo_writeTo_177 : decode cJo_writeTo 177 = .ok (.aload_n 0, 1) := by decide +kernel
theorem dJo_writeTo_178 : decode cJo_writeTo 178 = .ok (.iconst 1, 1) := by decide +kernel
theorem dJo_writeTo_179 : decode cJo_writeTo 179 = .ok (.invokevirtual 36, 3) := by decide +kernel
theorem dJo_writeTo_182 : decode cJo_writeTo 182 = .ok (.invokevirtual 51, 3) := by decide +kernel
theorem dJo_writeTo_185 : decode cJo_writeTo 185 = .ok (.goto 51, 3) := by decide +kernel
theorem dJo_writeTo_188 : decode cJo_writeTo 188 = .ok (.aload_n 1, 1) := by decide +kernel
theorem dJo_writeTo_189 : decode cJo_writeTo 189 = .ok (.aload_n 0, 1) := by decide +kernel
theorem dJo_writeTo_190 : decode cJo_writeTo 190 = .ok (.getfield 21, 3) := by decide +kernel
theorem dJo_writeTo_193 : decode cJo_writeTo 193 = .ok (.invokevirtual 51, 3) := by decide +kernel
theorem dJo_writeTo_196 : decode cJo_writeTo 196 = .ok (.aload_n 1, 1) := by decide +kernel
theorem dJo_writeTo_197 : decode cJo_writeTo 197 = .ok (.aload_n 0, 1) := by decide +kernel
theorem dJo_writeTo_198 : decode cJo_writeTo 198 = .ok (.getfield 24, 3) := by decide +kernel
theorem dJo_writeTo_201 : decode cJo_writeTo 201 = .ok (.invokevirtual 51, 3) := by decide +kernel
theorem dJo_writeTo_204 : decode cJo_writeTo 204 = .ok (.aload_n 0, 1) := by decide +kernel
theorem dJo_writeTo_205 : decode cJo_writeTo 205 = .ok (.aload_n 1, 1) := by decide +kernel
theorem dJo_writeTo_206 : decode cJo_writeTo 206 = .ok (.invokevirtual 55, 3) := by decide +kernel
theorem dJo_writeTo_209 : decode cJo_writeTo 209 = .ok (.goto 27, 3) := by decide +kernel
theorem dJo_writeTo_212 : decode cJo_writeTo 212 = .ok (.aload_n 1, 1) := by decide +kernel
theorem dJo_writeTo_213 : decode cJo_writeTo 213 = .ok (.aload_n 0, 1) := by decide +kernel
theorem dJo_writeTo_214 : decode cJo_writeTo 214 = .ok (.getfield 21, 3) := by decide +kernel
theorem dJo_writeTo_217 : decode cJo_writeTo 217 = .ok (.invokevirtual 51, 3) := by decide +kernel
theorem dJo_writeTo_220 : decode cJo_writeTo 220 = .ok (.aload_n 1, 1) := by decide +kernel
theorem dJo_writeTo_221 : decode cJo_writeTo 221 = .ok (.aload_n 0, 1) := by decide +kernel
theorem dJo_writeTo_222 : decode cJo_writeTo 222 = .ok (.getfield 24, 3) := by decide +kernel
theorem dJo_writeTo_225 : decode cJo_writeTo 225 = .ok (.invokevirtual 51, 3) := by decide +kernel
theorem dJo_writeTo_228 : decode cJo_writeTo 228 = .ok (.aload_n 0, 1) := by decide +kernel
theorem dJo_writeTo_229 : decode cJo_writeTo 229 = .ok (.aload_n 1, 1) := by decide +kernel
theorem dJo_writeTo_230 : decode cJo_writeTo 230 = .ok (.invokevirtual 59, 3) := by decide +kernel
theorem dJo_writeTo_233 : decode cJo_writeTo 233 = .ok (.goto 3, 3) := by decide +kernel
theorem dJo_writeTo_236 : decode cJo_writeTo 236 = .ok (.aload_n 1, 1) := by decide +kernel
theorem dJo_writeTo_237 : decode cJo_writeTo 237 = .ok (.invokevirtual 62, 3) := by decide +kernel
theorem dJo_writeTo_240 : decode cJo_writeTo 240 = .ok (.return_, 1) := by decide +kernel
theorem dJo_spanRefusal_0 : decode cJo_spanRefusal 0 = .ok (.aload_n 0, 1) := by decide +kernel
theorem dJo_spanRefusal_1 : decode cJo_spanRefusal 1 = .ok (.getfield 24, 3) := by decide +kernel
theorem dJo_spanRefusal_4 : decode cJo_spanRefusal 4 = .ok (.iconst 1, 1) := by decide +kernel
theorem dJo_spanRefusal_5 : decode cJo_spanRefusal 5 = .ok (.if_icmp .lt 11, 3) := by decide +kernel
theorem dJo_spanRefusal_8 : decode cJo_spanRefusal 8 = .ok (.aload_n 0, 1) := by decide +kernel
theorem dJo_spanRefusal_9 : decode cJo_spanRefusal 9 = .ok (.getfield 24, 3) := by decide +kernel
theorem dJo_spanRefusal_12 : decode cJo_spanRefusal 12 = .ok (.iload_n 1, 1) := by decide +kernel
theorem dJo_spanRefusal_13 : decode cJo_spanRefusal 13 = .ok (.if_icmp .le 5, 3) := by decide +kernel
theorem dJo_spanRefusal_16 : decode cJo_spanRefusal 16 = .ok (.iconst 3, 1) := by decide +kernel
theorem dJo_spanRefusal_17 : decode cJo_spanRefusal 17 = .ok (.ireturn, 1) := by decide +kernel
theorem dJo_spanRefusal_18 : decode cJo_spanRefusal 18 = .ok (.aload_n 0, 1) := by decide +kernel
theorem dJo_spanRefusal_19 : decode cJo_spanRefusal 19 = .ok (.getfield 21, 3) := by decide +kernel
theorem dJo_spanRefusal_22 : decode cJo_spanRefusal 22 = .ok (.aload_n 0, 1) := by decide +kernel
theorem dJo_spanRefusal_23 : decode cJo_spanRefusal 23 = .ok (.getfield 24, 3) := by decide +kernel
theorem dJo_spanRefusal_26 : decode cJo_spanRefusal 26 = .ok (.iadd, 1) := by decide +kernel
theorem dJo_spanRefusal_27 : decode cJo_spanRefusal 27 = .ok (.iload_n 2, 1) := by decide +kernel
theorem dJo_spanRefusal_28 : decode cJo_spanRefusal 28 = .ok (.if_icmp .gt 7, 3) := by decide +kernel
theorem dJo_spanRefusal_31 : decode cJo_spanRefusal 31 = .ok (.iconst 0, 1) := by decide +kernel
theorem dJo_spanRefusal_32 : decode cJo_spanRefusal 32 = .ok (.goto 4, 3) := by decide +kernel
theorem dJo_spanRefusal_35 : decode cJo_spanRefusal 35 = .ok (.iconst 2, 1) := by decide +kernel
theorem dJo_spanRefusal_36 : decode cJo_spanRefusal 36 = .ok (.ireturn, 1) := by decide +kernel
theorem dJo_isKnownKind_0 : decode cJo_isKnownKind 0 = .ok (.aload_n 0, 1) := by decide +kernel
theorem dJo_isKnownKind_1 : decode cJo_isKnownKind 1 = .ok (.getfield 21, 3) := by decide +kernel
theorem dJo_isKnownKind_4 : decode cJo_isKnownKind 4 = .ok (.ifCond .eq 19, 3) := by decide +kernel
theorem dJo_isKnownKind_7 : decode cJo_isKnownKind 7 = .ok (.aload_n 0, 1) := by decide +kernel
theorem dJo_isKnownKind_8 : decode cJo_isKnownKind 8 = .ok (.getfield 21, 3) := by decide +kernel
theorem dJo_isKnownKind_11 : decode cJo_isKnownKind 11 = .ok (.iconst 1, 1) := by decide +kernel
theorem dJo_isKnownKind_12 : decode cJo_isKnownKind 12 = .ok (.if_icmp .eq 11, 3) := by decide +kernel
theorem dJo_isKnownKind_15 : decode cJo_isKnownKind 15 = .ok (.aload_n 0, 1) := by decide +kernel
theorem dJo_isKnownKind_16 : decode cJo_isKnownKind 16 = .ok (.getfield 21, 3) := by decide +kernel
theorem dJo_isKnownKind_19 : decode cJo_isKnownKind 19 = .ok (.iconst 4, 1) := by decide +kernel
theorem dJo_isKnownKind_20 : decode cJo_isKnownKind 20 = .ok (.if_icmp .ne 7, 3) := by decide +kernel
theorem dJo_isKnownKind_23 : decode cJo_isKnownKind 23 = .ok (.iconst 1, 1) := by decide +kernel
theorem dJo_isKnownKind_24 : decode cJo_isKnownKind 24 = .ok (.goto 4, 3) := by decide +kernel
theorem dJo_isKnownKind_27 : decode cJo_isKnownKind 27 = .ok (.iconst 0, 1) := by decide +kernel
theorem dJo_isKnownKind_28 : decode cJo_isKnownKind 28 = .ok (.ireturn, 1) := by decide +kernel
theorem dJo_refusal_0 : decode cJo_refusal 0 = .ok (.aload_n 0, 1) := by decide +kernel
theorem dJo_refusal_1 : decode cJo_refusal 1 = .ok (.getfield 18, 3) := by decide +kernel
theorem dJo_refusal_4 : decode cJo_refusal 4 = .ok (.tableswitch 184 1 22 #[104, 104, 113, 113, 121, 156, 184, 171, 184, 184, 184, 184, 184, 184, 104, 113, 184, 184, 184, 184, 184, 156], 104) := by decide +kernel
theorem dJo_refusal_108 : decode cJo_refusal 108 = .ok (.aload_n 0, 1) := by decide +kernel
theorem dJo_refusal_109 : decode cJo_refusal 109 = .ok (.bipush 16, 2) := by decide +kernel
theorem dJo_refusal_111 : decode cJo_refusal 111 = .ok (.bipush 16, 2) := by decide +kernel
theorem dJo_refusal_113 : decode cJo_refusal 113 = .ok (.invokevirtual 32, 3) := by decide +kernel
theorem dJo_refusal_116 : decode cJo_refusal 116 = .ok (.ireturn, 1) := by decide +kernel
theorem dJo_refusal_117 : decode cJo_refusal 117 = .ok (.aload_n 0, 1) := by decide +kernel
theorem dJo_refusal_118 : decode cJo_refusal 118 = .ok (.iconst 4, 1) := by decide +kernel
theorem dJo_refusal_119 : decode cJo_refusal 119 = .ok (.bipush 8, 2) := by decide +kernel
theorem dJo_refusal_121 : decode cJo_refusal 121 = .ok (.invokevirtual 32, 3) := by decide +kernel
theorem dJo_refusal_124 : decode cJo_refusal 124 = .ok (.ireturn, 1) := by decide +kernel
theorem dJo_refusal_125 : decode cJo_refusal 125 = .ok (.aload_n 0, 1) := by decide +kernel
theorem dJo_refusal_126 : decode cJo_refusal 126 = .ok (.iconst 0, 1) := by decide +kernel
theorem dJo_refusal_127 : decode cJo_refusal 127 = .ok (.invokevirtual 36, 3) := by decide +kernel
theorem dJo_refusal_130 : decode cJo_refusal 130 = .ok (.ifCond .eq 15, 3) := by decide +kernel
theorem dJo_refusal_133 : decode cJo_refusal 133 = .ok (.aload_n 0, 1) := by decide +kernel
theorem dJo_refusal_134 : decode cJo_refusal 134 = .ok (.iconst 0, 1) := by decide +kernel
theorem dJo_refusal_135 : decode cJo_refusal 135 = .ok (.invokevirtual 36, 3) := by decide +kernel
theorem dJo_refusal_138 : decode cJo_refusal 138 = .ok (.ldc 40, 2) := by decide +kernel
theorem dJo_refusal_140 : decode cJo_refusal 140 = .ok (.if_icmp .eq 5, 3) := by decide +kernel
theorem dJo_refusal_143 : decode cJo_refusal 143 = .ok (.iconst 3, 1) := by decide +kernel
theorem dJo_refusal_144 : decode cJo_refusal 144 = .ok (.ireturn, 1) := by decide +kernel
theorem dJo_refusal_145 : decode cJo_refusal 145 = .ok (.aload_n 0, 1) := by decide +kernel
theorem dJo_refusal_146 : decode cJo_refusal 146 = .ok (.getfield 21, 3) := by decide +kernel
theorem dJo_refusal_149 : decode cJo_refusal 149 = .ok (.bipush 16, 2) := by decide +kernel
theorem dJo_refusal_151 : decode cJo_refusal 151 = .ok (.if_icmp .ge 7, 3) := by decide +kernel
theorem dJo_refusal_154 : decode cJo_refusal 154 = .ok (.iconst 0, 1) := by decide +kernel
theorem dJo_refusal_155 : decode cJo_refusal 155 = .ok (.goto 4, 3) := by decide +kernel
theorem dJo_refusal_158 : decode cJo_refusal 158 = .ok (.iconst 2, 1) := by decide +kernel
theorem dJo_refusal_159 : decode cJo_refusal 159 = .ok (.ireturn, 1) := by decide +kernel
theorem dJo_refusal_160 : decode cJo_refusal 160 = .ok (.aload_n 0, 1) := by decide +kernel
theorem dJo_refusal_161 : decode cJo_refusal 161 = .ok (.getfield 21, 3) := by decide +kernel
theorem dJo_refusal_164 : decode cJo_refusal 164 = .ok (.bipush 8, 2) := by decide +kernel
theorem dJo_refusal_166 : decode cJo_refusal 166 = .ok (.if_icmp .ge 7, 3) := by decide +kernel
theorem dJo_refusal_169 : decode cJo_refusal 169 = .ok (.iconst 0, 1) := by decide +kernel
theorem dJo_refusal_170 : decode cJo_refusal 170 = .ok (.goto 4, 3) := by decide +kernel
theorem dJo_refusal_173 : decode cJo_refusal 173 = .ok (.iconst 2, 1) := by decide +kernel
theorem dJo_refusal_174 : decode cJo_refusal 174 = .ok (.ireturn, 1) := by decide +kernel
theorem dJo_refusal_175 : decode cJo_refusal 175 = .ok (.aload_n 0, 1) := by decide +kernel
theorem dJo_refusal_176 : decode cJo_refusal 176 = .ok (.invokevirtual 41, 3) := by decide +kernel
theorem dJo_refusal_179 : decode cJo_refusal 179 = .ok (.ifCond .eq 7, 3) := by decide +kernel
theorem dJo_refusal_182 : decode cJo_refusal 182 = .ok (.iconst 0, 1) := by decide +kernel
theorem dJo_refusal_183 : decode cJo_refusal 183 = .ok (.goto 4, 3) := by decide +kernel
theorem dJo_refusal_186 : decode cJo_refusal 186 = .ok (.iconst 3, 1) := by decide +kernel
theorem dJo_refusal_187 : decode cJo_refusal 187 = .ok (.ireturn, 1) := by decide +kernel
theorem dJo_refusal_188 : decode cJo_refusal 188 = .ok (.iconst 1, 1) := by decide +kernel
theorem dJo_refusal_189 : decode cJo_refusal 189 = .ok (.ireturn, 1) := by decide +kernel
theorem dJo_bit_0 : decode cJo_bit 0 = .ok (.aload_n 0, 1) := by decide +kernel
theorem dJo_bit_1 : decode cJo_bit 1 = .ok (.getfield 27, 3) := by decide +kernel
theorem dJo_bit_4 : decode cJo_bit 4 = .ok (.iload_n 1, 1) := by decide +kernel
theorem dJo_bit_5 : decode cJo_bit 5 = .ok (.lushr, 1) := by decide +kernel
theorem dJo_bit_6 : decode cJo_bit 6 = .ok (.l2i, 1) := by decide +kernel
theorem dJo_bit_7 : decode cJo_bit 7 = .ok (.iconst 1, 1) := by decide +kernel
theorem dJo_bit_8 : decode cJo_bit 8 = .ok (.iand, 1) := by decide +kernel
theorem dJo_bit_9 : decode cJo_bit 9 = .ok (.ireturn, 1) := by decide +kernel
theorem dPo_goUnanswered_0 : decode cPo_goUnanswered 0 = .ok (.return_, 1) := by decide +kernel
theorem dRe_goUnanswered_0 : decode cRe_goUnanswered 0 = .ok (.aload_n 0, 1) := by decide +kernel
theorem dRe_goUnanswered_1 : decode cRe_goUnanswered 1 = .ok (.bipush 11, 2) := by decide +kernel
theorem dRe_goUnanswered_3 : decode cRe_goUnanswered 3 = .ok (.invokevirtual 24, 3) := by decide +kernel
theorem dRe_goUnanswered_6 : decode cRe_goUnanswered 6 = .ok (.return_, 1) := by decide +kernel
theorem dHi_part_0 : decode cHi_part 0 = .ok (.iload_n 1, 1) := by decide +kernel
theorem dHi_part_1 : decode cHi_part 1 = .ok (.ifCond .lt 11, 3) := by decide +kernel
theorem dHi_part_4 : decode cHi_part 4 = .ok (.iload_n 1, 1) := by decide +kernel
theorem dHi_part_5 : decode cHi_part 5 = .ok (.aload_n 0, 1) := by decide +kernel
theorem dHi_part_6 : decode cHi_part 6 = .ok (.getfield 28, 3) := by decide +kernel
theorem dHi_part_9 : decode cHi_part 9 = .ok (.if_icmp .lt 5, 3) := by decide +kernel
theorem dHi_part_12 : decode cHi_part 12 = .ok (.iconst (-1), 1) := by decide +kernel
theorem dHi_part_13 : decode cHi_part 13 = .ok (.ireturn, 1) := by decide +kernel
theorem dHi_part_14 : decode cHi_part 14 = .ok (.aload_n 0, 1) := by decide +kernel
theorem dHi_part_15 : decode cHi_part 15 = .ok (.getfield 24, 3) := by decide +kernel
theorem dHi_part_18 : decode cHi_part 18 = .ok (.iload_n 1, 1) := by decide +kernel
theorem dHi_part_19 : decode cHi_part 19 = .ok (.iadd, 1) := by decide +kernel
theorem dHi_part_20 : decode cHi_part 20 = .ok (.bipush 12, 2) := by decide +kernel
theorem dHi_part_22 : decode cHi_part 22 = .ok (.irem, 1) := by decide +kernel
theorem dHi_part_23 : decode cHi_part 23 = .ok (.istore_n 3, 1) := by decide +kernel
theorem dHi_part_24 : decode cHi_part 24 = .ok (.iload_n 2, 1) := by decide +kernel
theorem dHi_part_25 : decode cHi_part 25 = .ok (.tableswitch 48 0 2 #[27, 34, 41], 27) := by decide +kernel
theorem dHi_part_52 : decode cHi_part 52 = .ok (.aload_n 0, 1) := by decide +kernel
theorem dHi_part_53 : decode cHi_part 53 = .ok (.getfield 9, 3) := by decide +kernel
theorem dHi_part_56 : decode cHi_part 56 = .ok (.iload_n 3, 1) := by decide +kernel
theorem dHi_part_57 : decode cHi_part 57 = .ok (.iaload, 1) := by decide +kernel
theorem dHi_part_58 : decode cHi_part 58 = .ok (.ireturn, 1) := by decide +kernel
theorem dHi_part_59 : decode cHi_part 59 = .ok (.aload_n 0, 1) := by decide +kernel
theorem dHi_part_60 : decode cHi_part 60 = .ok (.getfield 15, 3) := by decide +kernel
theorem dHi_part_63 : decode cHi_part 63 = .ok (.iload_n 3, 1) := by decide +kernel
theorem dHi_part_64 : decode cHi_part 64 = .ok (.iaload, 1) := by decide +kernel
theorem dHi_part_65 : decode cHi_part 65 = .ok (.ireturn, 1) := by decide +kernel
theorem dHi_part_66 : decode cHi_part 66 = .ok (.aload_n 0, 1) := by decide +kernel
theorem dHi_part_67 : decode cHi_part 67 = .ok (.getfield 18, 3) := by decide +kernel
theorem dHi_part_70 : decode cHi_part 70 = .ok (.iload_n 3, 1) := by decide +kernel
theorem dHi_part_71 : decode cHi_part 71 = .ok (.iaload, 1) := by decide +kernel
theorem dHi_part_72 : decode cHi_part 72 = .ok (.ireturn, 1) := by decide +kernel
theorem dHi_part_73 : decode cHi_part 73 = .ok (.iconst (-1), 1) := by decide +kernel
theorem dHi_part_74 : decode cHi_part 74 = .ok (.ireturn, 1) := by decide +kernel
theorem dHi_countOf_0 : decode cHi_countOf 0 = .ok (.iconst 0, 1) := by decide +kernel
theorem dHi_countOf_1 : decode cHi_countOf 1 = .ok (.istore 4, 2) := by decide +kernel
theorem dHi_countOf_3 : decode cHi_countOf 3 = .ok (.iconst 0, 1) := by decide +kernel
theorem dHi_countOf_4 : decode cHi_countOf 4 = .ok (.istore 5, 2) := by decide +kernel
theorem dHi_countOf_6 : decode cHi_countOf 6 = .ok (.iload 5, 2) := by decide +kernel
theorem dHi_countOf_8 : decode cHi_countOf 8 = .ok (.aload_n 0, 1) := by decide +kernel
theorem dHi_countOf_9 : decode cHi_countOf 9 = .ok (.getfield 28, 3) := by decide +kernel
theorem dHi_countOf_12 : decode cHi_countOf 12 = .ok (.if_icmp .ge 57, 3) := by decide +kernel
theorem dHi_countOf_15 : decode cHi_countOf 15 = .ok (.aload_n 0, 1) := by decide +kernel
theorem dHi_countOf_16 : decode cHi_countOf 16 = .ok (.getfield 24, 3) := by decide +kernel
theorem dHi_countOf_19 : decode cHi_countOf 19 = .ok (.iload 5, 2) := by decide +kernel
theorem dHi_countOf_21 : decode cHi_countOf 21 = .ok (.iadd, 1) := by decide +kernel
theorem dHi_countOf_22 : decode cHi_countOf 22 = .ok (.bipush 12, 2) := by decide +kernel
theorem dHi_countOf_24 : decode cHi_countOf 24 = .ok (.irem, 1) := by decide +kernel
theorem dHi_countOf_25 : decode cHi_countOf 25 = .ok (.istore 6, 2) := by decide +kernel
theorem dHi_countOf_27 : decode cHi_countOf 27 = .ok (.aload_n 0, 1) := by decide +kernel
theorem dHi_countOf_28 : decode cHi_countOf 28 = .ok (.getfield 15, 3) := by decide +kernel
theorem dHi_countOf_31 : decode cHi_countOf 31 = .ok (.iload 6, 2) := by decide +kernel
theorem dHi_countOf_33 : decode cHi_countOf 33 = .ok (.iaload, 1) := by decide +kernel
theorem dHi_countOf_34 : decode cHi_countOf 34 = .ok (.iload_n 1, 1) := by decide +kernel
theorem dHi_countOf_35 : decode cHi_countOf 35 = .ok (.if_icmp .ne 28, 3) := by decide +kernel
theorem dHi_countOf_38 : decode cHi_countOf 38 = .ok (.aload_n 0, 1) := by decide +kernel
theorem dHi_countOf_39 : decode cHi_countOf 39 = .ok (.getfield 9, 3) := by decide +kernel
theorem dHi_countOf_42 : decode cHi_countOf 42 = .ok (.iload 6, 2) := by decide +kernel
theorem dHi_countOf_44 : decode cHi_countOf 44 = .ok (.iaload, 1) := by decide +kernel
theorem dHi_countOf_45 : decode cHi_countOf 45 = .ok (.iload_n 2, 1) := by decide +kernel
theorem dHi_countOf_46 : decode cHi_countOf 46 = .ok (.if_icmp .lt 17, 3) := by decide +kernel
theorem dHi_countOf_49 : decode cHi_countOf 49 = .ok (.aload_n 0, 1) := by decide +kernel
theorem dHi_countOf_50 : decode cHi_countOf 50 = .ok (.getfield 9, 3) := by decide +kernel
theorem dHi_countOf_53 : decode cHi_countOf 53 = .ok (.iload 6, 2) := by decide +kernel
theorem dHi_countOf_55 : decode cHi_countOf 55 = .ok (.iaload, 1) := by decide +kernel
theorem dHi_countOf_56 : decode cHi_countOf 56 = .ok (.iload_n 3, 1) := by decide +kernel
theorem dHi_countOf_57 : decode cHi_countOf 57 = .ok (.if_icmp .gt 6, 3) := by decide +kernel
theorem dHi_countOf_60 : decode cHi_countOf 60 = .ok (.iinc 4 1, 3) := by decide +kernel
theorem dHi_countOf_63 : decode cHi_countOf 63 = .ok (.iinc 5 1, 3) := by decide +kernel
theorem dHi_countOf_66 : decode cHi_countOf 66 = .ok (.goto (-60), 3) := by decide +kernel
theorem dHi_countOf_69 : decode cHi_countOf 69 = .ok (.iload 4, 2) := by decide +kernel
theorem dHi_countOf_71 : decode cHi_countOf 71 = .ok (.ireturn, 1) := by decide +kernel
def fHi_init (t0 : Nat) (S : Ws) : Option (Ws) :=
  (pV (S.add (.inl (0, 12, .inl (fun _ => 0)))) t0 [1] 0 (.ref S.1)).bind fun S1 => (pV (S1.add (.inl (0, 12, .inl (fun _ => 0)))) t0 [1] 1 (.ref S1.1)).bind fun S2 => (pV (S2.add (.inl (0, 12, .inl (fun _ => 0)))) t0 [1] 2 (.ref S2.1)).bind fun S3 => (sI (S3.add (.inl (0, 4, .inl (fun _ => 0)))) S3.1 0 (0 : Int32) (-1 : Int32)).bind fun S4 => (sI S4 S3.1 0 (1 : Int32) (-1 : Int32)).bind fun S5 => (sI S5 S3.1 0 (2 : Int32) (-1 : Int32)).bind fun S6 => (sI S6 S3.1 0 (3 : Int32) (-1 : Int32)).bind fun S7 => (pV S7 t0 [1] 3 (.ref S3.1)).bind fun S8 => some S8
set_option maxRecDepth 100000 in
set_option maxHeartbeats 4000000 in
theorem kHi_init (l : Launch) (D : va_G) (tc : Nat → ClassId) (b : Nat) (t0 : Nat) (S Sz : Ws) (h : fHi_init t0 S = some Sz) : Met l yHi_init wsHi_init { frames := 1, cells := 4, slots := 40, locals := 40 } (va_Pc [.ref t0] (Wp D vwCl (hTy tc) b S)) (va_Qv (fun _ : Unit => True) (fun _ => Wp D vwCl (hTy tc) b Sz) (fun q => b ≤ q)) 4 40 (fun q => b ≤ q) := by
  refine hq_ofW (cc := cHi_init) (maxL := 1) (ret := none) (by decide) rfl (Nat.le_of_ble_eq_true rfl) fun p e s m args below meth c hx hb hr hts hown hlocks hnm hml H locs ls hl hW => ?_
  have hts : ∀ w ∈ lwG, w.before args s = true := fun w h => hts w (List.mem_cons_of_mem _ h)
  have hown : s.vm.findClass "SerialPlant$History" = some m.cls := hown
  have hl : lv_has ls 1 [(0, .ref t0)] := hl
  unfold fHi_init at h
  refine lv_aload_n hx hb dHi_init_0 rfl (lv_at hl 0 rfl) ?_
  refine W.objInit hx hb hown (hts _ w_138) (hts _ w_17) (hts _ w_oi) rfl (by rw [hml]; exact hl.1) rfl dHi_init_1 (Nat.le_of_ble_eq_true rfl) (Nat.le_of_ble_eq_true rfl) ?_
  refine W.eq (g2 := F0 m 4 ls []) rfl ?_
  refine lv_aload_n hx hb dHi_init_4 rfl (lv_at hl 0 rfl) ?_
  refine lv_bipush hx hb dHi_init_5 (v := (12 : Int32)) rfl ?_
  refine hq_newa (atype := .int) (ty := .int) (N := 12) (a0 := .inl (fun _ => 0)) (ce := 1) (sl := 12) hx hb (hts _ w_56) rfl (fun _ h => by cases h) hW 0 rfl (fun _ => rfl) (by decide) rfl (by decide) rfl rfl (Nat.le_of_ble_eq_true rfl) (Nat.le_of_ble_eq_true rfl) dHi_init_7 (fun H hW => ?_)
  replace h := ob h; obtain ⟨S1, eS1, h⟩ := h
  refine hq_put hx hb hts hown hW eS1 (F_Hi_9 hts) (P_Hi_Hi_0 hnm) rfl rfl dHi_init_9 (fun H locs hW => ?_)
  refine lv_aload_n hx hb dHi_init_12 rfl (lv_at hl 0 rfl) ?_
  refine lv_bipush hx hb dHi_init_13 (v := (12 : Int32)) rfl ?_
  refine hq_newa (atype := .int) (ty := .int) (N := 12) (a0 := .inl (fun _ => 0)) (ce := 2) (sl := 24) hx hb (hts _ w_56) rfl (fun _ h => by cases h) hW 0 rfl (fun _ => rfl) (by decide) rfl (by decide) rfl rfl (Nat.le_of_ble_eq_true rfl) (Nat.le_of_ble_eq_true rfl) dHi_init_15 (fun H hW => ?_)
  replace h := ob h; obtain ⟨S2, eS2, h⟩ := h
  refine hq_put hx hb hts hown hW eS2 (F_Hi_15 hts) (P_Hi_Hi_1 hnm) rfl rfl dHi_init_17 (fun H locs hW => ?_)
  refine lv_aload_n hx hb dHi_init_20 rfl (lv_at hl 0 rfl) ?_
  refine lv_bipush hx hb dHi_init_21 (v := (12 : Int32)) rfl ?_
  refine hq_newa (atype := .int) (ty := .int) (N := 12) (a0 := .inl (fun _ => 0)) (ce := 3) (sl := 36) hx hb (hts _ w_56) rfl (fun _ h => by cases h) hW 0 rfl (fun _ => rfl) (by decide) rfl (by decide) rfl rfl (Nat.le_of_ble_eq_true rfl) (Nat.le_of_ble_eq_true rfl) dHi_init_23 (fun H hW => ?_)
  replace h := ob h; obtain ⟨S3, eS3, h⟩ := h
  refine hq_put hx hb hts hown hW eS3 (F_Hi_18 hts) (P_Hi_Hi_2 hnm) rfl rfl dHi_init_25 (fun H locs hW => ?_)
  refine lv_aload_n hx hb dHi_init_28 rfl (lv_at hl 0 rfl) ?_
  refine lv_iconst hx hb dHi_init_29 (v := (4 : Int32)) rfl ?_
  refine hq_newa (atype := .int) (ty := .int) (N := 4) (a0 := .inl (fun _ => 0)) (ce := 4) (sl := 40) hx hb (hts _ w_56) rfl (fun _ h => by cases h) hW 0 rfl (fun _ => rfl) (by decide) rfl (by decide) rfl rfl (Nat.le_of_ble_eq_true rfl) (Nat.le_of_ble_eq_true rfl) dHi_init_30 (fun H hW => ?_)
  refine lv_dup hx hb dHi_init_32 rfl ?_
  refine lv_iconst hx hb dHi_init_33 (v := (0 : Int32)) rfl ?_
  refine lv_iconst hx hb dHi_init_34 (v := (-1 : Int32)) rfl ?_
  replace h := ob h; obtain ⟨S4, eS4, h⟩ := h
  refine hq_iast hx hb hW eS4 rfl dHi_init_35 (fun H locs hW => ?_)
  refine lv_dup hx hb dHi_init_36 rfl ?_
  refine lv_iconst hx hb dHi_init_37 (v := (1 : Int32)) rfl ?_
  refine lv_iconst hx hb dHi_init_38 (v := (-1 : Int32)) rfl ?_
  replace h := ob h; obtain ⟨S5, eS5, h⟩ := h
  refine hq_iast hx hb hW eS5 rfl dHi_init_39 (fun H locs hW => ?_)
  refine lv_dup hx hb dHi_init_40 rfl ?_
  refine lv_iconst hx hb dHi_init_41 (v := (2 : Int32)) rfl ?_
  refine lv_iconst hx hb dHi_init_42 (v := (-1 : Int32)) rfl ?_
  replace h := ob h; obtain ⟨S6, eS6, h⟩ := h
  refine hq_iast hx hb hW eS6 rfl dHi_init_43 (fun H locs hW => ?_)
  refine lv_dup hx hb dHi_init_44 rfl ?_
  refine lv_iconst hx hb dHi_init_45 (v := (3 : Int32)) rfl ?_
  refine lv_iconst hx hb dHi_init_46 (v := (-1 : Int32)) rfl ?_
  replace h := ob h; obtain ⟨S7, eS7, h⟩ := h
  refine hq_iast hx hb hW eS7 rfl dHi_init_47 (fun H locs hW => ?_)
  replace h := ob h; obtain ⟨S8, eS8, h⟩ := h
  refine hq_put hx hb hts hown hW eS8 (F_Hi_21 hts) (P_Hi_Hi_3 hnm) rfl rfl dHi_init_48 (fun H locs hW => ?_)
  exact hq_vret hx hb hr hlocks h (Nat.le_of_ble_eq_true rfl) (Nat.le_of_ble_eq_true rfl) hW dHi_init_51
def fJo_init (t0 : Nat) (t1 : Int32) (t2 : Int32) (t3 : Int32) (t4 : Int32) (t5 : Int32) (t6 : Int64) (S : Ws) : Option (Ws) :=
  (pV S t0 [3, 4] 0 (.int t1)).bind fun S1 => (pV S1 t0 [3, 4] 1 (.int t2)).bind fun S2 => (pV S2 t0 [3, 4] 2 (.int t3)).bind fun S3 => (pV S3 t0 [3, 4] 3 (.int t4)).bind fun S4 => (pV S4 t0 [3, 4] 4 (.int t5)).bind fun S5 => (pV S5 t0 [3, 4] 5 (.long t6)).bind fun S6 => some S6
set_option maxRecDepth 100000 in
set_option maxHeartbeats 4000000 in
theorem kJo_init (l : Launch) (D : va_G) (tc : Nat → ClassId) (b : Nat) (t0 : Nat) (t1 : Int32) (t2 : Int32) (t3 : Int32) (t4 : Int32) (t5 : Int32) (t6 : Int64) (S Sz : Ws) (h : fJo_init t0 t1 t2 t3 t4 t5 t6 S = some Sz) : Met l yJo_init wsJo_init { frames := 1, cells := 0, slots := 0, locals := 40 } (va_Pc [.ref t0, .int t1, .int t2, .int t3, .int t4, .int t5, .long t6] (Wp D vwCl (hTy tc) b S)) (va_Qv (fun _ : Unit => True) (fun _ => Wp D vwCl (hTy tc) b Sz) (fun q => b ≤ q)) 0 0 (fun q => b ≤ q) := by
  refine hq_ofW (cc := cJo_init) (maxL := 8) (ret := none) (by decide) rfl (Nat.le_of_ble_eq_true rfl) fun p e s m args below meth c hx hb hr hts hown hlocks hnm hml H locs ls hl hW => ?_
  have hts : ∀ w ∈ lwG, w.before args s = true := fun w h => hts w (List.mem_cons_of_mem _ h)
  have hown : s.vm.findClass "SerialPlant$Job" = some m.cls := hown
  have hl : lv_has ls 8 [(0, .ref t0), (1, .int t1), (2, .int t2), (3, .int t3), (4, .int t4), (5, .int t5), (6, .long t6)] := hl
  unfold fJo_init at h
  refine lv_aload_n hx hb dJo_init_0 rfl (lv_at hl 0 rfl) ?_
  refine W.objInit hx hb hown (hts _ w_235) (hts _ w_17) (hts _ w_oi) rfl (by rw [hml]; exact hl.1) rfl dJo_init_1 (Nat.le_of_ble_eq_true rfl) (Nat.le_of_ble_eq_true rfl) ?_
  refine W.eq (g2 := F0 m 4 ls []) rfl ?_
  refine lv_aload_n hx hb dJo_init_4 rfl (lv_at hl 0 rfl) ?_
  refine lv_iload_n hx hb dJo_init_5 rfl (lv_at hl 1 rfl) ?_
  replace h := ob h; obtain ⟨S1, eS1, h⟩ := h
  refine hq_put hx hb hts hown hW eS1 (F_Jo_9 hts) (P_Jo_Po_Re_0 hnm) rfl rfl dJo_init_6 (fun H locs hW => ?_)
  refine lv_aload_n hx hb dJo_init_9 rfl (lv_at hl 0 rfl) ?_
  refine lv_iload_n hx hb dJo_init_10 rfl (lv_at hl 2 rfl) ?_
  replace h := ob h; obtain ⟨S2, eS2, h⟩ := h
  refine hq_put hx hb hts hown hW eS2 (F_Jo_15 hts) (P_Jo_Po_Re_1 hnm) rfl rfl dJo_init_11 (fun H locs hW => ?_)
  refine lv_aload_n hx hb dJo_init_14 rfl (lv_at hl 0 rfl) ?_
  refine lv_iload_n hx hb dJo_init_15 rfl (lv_at hl 3 rfl) ?_
  replace h := ob h; obtain ⟨S3, eS3, h⟩ := h
  refine hq_put hx hb hts hown hW eS3 (F_Jo_18 hts) (P_Jo_Po_Re_2 hnm) rfl rfl dJo_init_16 (fun H locs hW => ?_)
  refine lv_aload_n hx hb dJo_init_19 rfl (lv_at hl 0 rfl) ?_
  refine lv_iload hx hb dJo_init_20 (lv_at hl 4 rfl) ?_
  replace h := ob h; obtain ⟨S4, eS4, h⟩ := h
  refine hq_put hx hb hts hown hW eS4 (F_Jo_21 hts) (P_Jo_Po_Re_3 hnm) rfl rfl dJo_init_22 (fun H locs hW => ?_)
  refine lv_aload_n hx hb dJo_init_25 rfl (lv_at hl 0 rfl) ?_
  refine lv_iload hx hb dJo_init_26 (lv_at hl 5 rfl) ?_
  replace h := ob h; obtain ⟨S5, eS5, h⟩ := h
  refine hq_put hx hb hts hown hW eS5 (F_Jo_24 hts) (P_Jo_Po_Re_4 hnm) rfl rfl dJo_init_28 (fun H locs hW => ?_)
  refine lv_aload_n hx hb dJo_init_31 rfl (lv_at hl 0 rfl) ?_
  refine lv_lload hx hb dJo_init_32 (lv_at hl 6 rfl) ?_
  replace h := ob h; obtain ⟨S6, eS6, h⟩ := h
  refine hq_put hx hb hts hown hW eS6 (F_Jo_27 hts) (P_Jo_Po_Re_5 hnm) rfl rfl dJo_init_34 (fun H locs hW => ?_)
  exact hq_vret hx hb hr hlocks h (Nat.le_of_ble_eq_true rfl) (Nat.le_of_ble_eq_true rfl) hW dJo_init_37
def fPo_init (t0 : Nat) (t1 : Int32) (t2 : Int32) (t3 : Int32) (t4 : Int32) (t5 : Nat) (S : Ws) : Option (Ws) :=
  (fJo_init t0 ((64 : Int32) + t1) t2 t3 t4 (1 : Int32) (0 : Int64) S).bind fun S1 => (pV S1 t0 [3] 6 (.int t1)).bind fun S2 => (pV S2 t0 [3] 7 (.ref t5)).bind fun S3 => some S3
set_option maxRecDepth 100000 in
set_option maxHeartbeats 4000000 in
theorem kPo_init (l : Launch) (D : va_G) (tc : Nat → ClassId) (b : Nat) (t0 : Nat) (t1 : Int32) (t2 : Int32) (t3 : Int32) (t4 : Int32) (t5 : Nat) (S Sz : Ws) (h : fPo_init t0 t1 t2 t3 t4 t5 S = some Sz) : Met l yPo_init wsPo_init { frames := 2, cells := 0, slots := 0, locals := 80 } (va_Pc [.ref t0, .int t1, .int t2, .int t3, .int t4, .ref t5] (Wp D vwCl (hTy tc) b S)) (va_Qv (fun _ : Unit => True) (fun _ => Wp D vwCl (hTy tc) b Sz) (fun q => b ≤ q)) 0 0 (fun q => b ≤ q) := by
  refine hq_ofW (cc := cPo_init) (maxL := 6) (ret := none) (by decide) rfl (Nat.le_of_ble_eq_true rfl) fun p e s m args below meth c hx hb hr hts hown hlocks hnm hml H locs ls hl hW => ?_
  have hts : ∀ w ∈ lwG, w.before args s = true := fun w h => hts w (List.mem_cons_of_mem _ h)
  have hown : s.vm.findClass "SerialPlant$Poll" = some m.cls := hown
  have hl : lv_has ls 6 [(0, .ref t0), (1, .int t1), (2, .int t2), (3, .int t3), (4, .int t4), (5, .ref t5)] := hl
  unfold fPo_init at h
  refine lv_aload_n hx hb dPo_init_0 rfl (lv_at hl 0 rfl) ?_
  refine lv_bipush hx hb dPo_init_1 (v := (64 : Int32)) rfl ?_
  refine lv_iload_n hx hb dPo_init_3 rfl (lv_at hl 1 rfl) ?_
  refine lv_iadd hx hb dPo_init_4 ?_
  refine lv_iload_n hx hb dPo_init_5 rfl (lv_at hl 2 rfl) ?_
  refine lv_iload_n hx hb dPo_init_6 rfl (lv_at hl 3 rfl) ?_
  refine lv_iload hx hb dPo_init_7 (lv_at hl 4 rfl) ?_
  refine lv_iconst hx hb dPo_init_9 (v := (1 : Int32)) rfl ?_
  refine lv_lconst hx hb dPo_init_10 (v := (0 : Int64)) rfl ?_
  replace h := ob h; obtain ⟨S1, eS1, h⟩ := h
  refine hq_callv (ce := 0) (sl := 0) (va_runI (As := [.int ((64 : Int32) + t1), .int t2, .int t3, .int t4, .int (1 : Int32), .long (0 : Int64)]) (rest := []) ⟨hx, hb, hml, hown, hts⟩ (kJo_init l D tc b t0 ((64 : Int32) + t1) t2 t3 t4 (1 : Int32) (0 : Int64) S _ eS1) (cwI 6 hts G0_Jo_init rfl rfl rfl (hts _ w_8) (hts _ w_232) (hts _ w_233) rfl hd_Jo_init_I ⟨Nat.le_of_ble_eq_true rfl, Nat.le_of_ble_eq_true rfl⟩) (hq_preS hW) rfl rfl hl.1 rfl (lv_room (by first | exact Nat.le_of_ble_eq_true rfl | (simp only [List.map, rf_cat]; exact Nat.le_of_ble_eq_true rfl))) dPo_init_11 ⟨Nat.le_of_ble_eq_true rfl, Nat.le_of_ble_eq_true rfl⟩) hW rfl rfl (fun H locs hW => ?_)
  refine lv_aload_n hx hb dPo_init_14 rfl (lv_at hl 0 rfl) ?_
  refine lv_iload_n hx hb dPo_init_15 rfl (lv_at hl 1 rfl) ?_
  replace h := ob h; obtain ⟨S2, eS2, h⟩ := h
  refine hq_put hx hb hts hown hW eS2 (F_Po_9 hts) (P_Po_Po_6 hnm) rfl rfl dPo_init_16 (fun H locs hW => ?_)
  refine lv_aload_n hx hb dPo_init_19 rfl (lv_at hl 0 rfl) ?_
  refine lv_aload hx hb dPo_init_20 (lv_at hl 5 rfl) ?_
  replace h := ob h; obtain ⟨S3, eS3, h⟩ := h
  refine hq_put hx hb hts hown hW eS3 (F_Po_15 hts) (P_Po_Po_7 hnm) rfl rfl dPo_init_22 (fun H locs hW => ?_)
  exact hq_vret hx hb hr hlocks h (Nat.le_of_ble_eq_true rfl) (Nat.le_of_ble_eq_true rfl) hW dPo_init_25
def fRe_init (t0 : Nat) (t1 : Int32) (t2 : Int32) (t3 : Int32) (t4 : Int32) (t5 : Int32) (t6 : Int64) (S : Ws) : Option (Ws) :=
  (fJo_init t0 t1 t2 t3 t4 t5 t6 S).bind fun S1 => (pV S1 t0 [4] 6 (.int (0 : Int32))).bind fun S2 => some S2
set_option maxRecDepth 100000 in
set_option maxHeartbeats 4000000 in
theorem kRe_init (l : Launch) (D : va_G) (tc : Nat → ClassId) (b : Nat) (t0 : Nat) (t1 : Int32) (t2 : Int32) (t3 : Int32) (t4 : Int32) (t5 : Int32) (t6 : Int64) (S Sz : Ws) (h : fRe_init t0 t1 t2 t3 t4 t5 t6 S = some Sz) : Met l yRe_init wsRe_init { frames := 2, cells := 0, slots := 0, locals := 80 } (va_Pc [.ref t0, .int t1, .int t2, .int t3, .int t4, .int t5, .long t6] (Wp D vwCl (hTy tc) b S)) (va_Qv (fun _ : Unit => True) (fun _ => Wp D vwCl (hTy tc) b Sz) (fun q => b ≤ q)) 0 0 (fun q => b ≤ q) := by
  refine hq_ofW (cc := cRe_init) (maxL := 8) (ret := none) (by decide) rfl (Nat.le_of_ble_eq_true rfl) fun p e s m args below meth c hx hb hr hts hown hlocks hnm hml H locs ls hl hW => ?_
  have hts : ∀ w ∈ lwG, w.before args s = true := fun w h => hts w (List.mem_cons_of_mem _ h)
  have hown : s.vm.findClass "SerialPlant$Request" = some m.cls := hown
  have hl : lv_has ls 8 [(0, .ref t0), (1, .int t1), (2, .int t2), (3, .int t3), (4, .int t4), (5, .int t5), (6, .long t6)] := hl
  unfold fRe_init at h
  refine lv_aload_n hx hb dRe_init_0 rfl (lv_at hl 0 rfl) ?_
  refine lv_iload_n hx hb dRe_init_1 rfl (lv_at hl 1 rfl) ?_
  refine lv_iload_n hx hb dRe_init_2 rfl (lv_at hl 2 rfl) ?_
  refine lv_iload_n hx hb dRe_init_3 rfl (lv_at hl 3 rfl) ?_
  refine lv_iload hx hb dRe_init_4 (lv_at hl 4 rfl) ?_
  refine lv_iload hx hb dRe_init_6 (lv_at hl 5 rfl) ?_
  refine lv_lload hx hb dRe_init_8 (lv_at hl 6 rfl) ?_
  replace h := ob h; obtain ⟨S1, eS1, h⟩ := h
  refine hq_callv (ce := 0) (sl := 0) (va_runI (As := [.int t1, .int t2, .int t3, .int t4, .int t5, .long t6]) (rest := []) ⟨hx, hb, hml, hown, hts⟩ (kJo_init l D tc b t0 t1 t2 t3 t4 t5 t6 S _ eS1) (cwI 6 hts G0_Jo_init rfl rfl rfl (hts _ w_8) (hts _ w_279) (hts _ w_233) rfl hd_Jo_init_I ⟨Nat.le_of_ble_eq_true rfl, Nat.le_of_ble_eq_true rfl⟩) (hq_preS hW) rfl rfl hl.1 rfl (lv_room (by first | exact Nat.le_of_ble_eq_true rfl | (simp only [List.map, rf_cat]; exact Nat.le_of_ble_eq_true rfl))) dRe_init_10 ⟨Nat.le_of_ble_eq_true rfl, Nat.le_of_ble_eq_true rfl⟩) hW rfl rfl (fun H locs hW => ?_)
  refine lv_aload_n hx hb dRe_init_13 rfl (lv_at hl 0 rfl) ?_
  refine lv_iconst hx hb dRe_init_14 (v := (0 : Int32)) rfl ?_
  replace h := ob h; obtain ⟨S2, eS2, h⟩ := h
  refine hq_put hx hb hts hown hW eS2 (F_Re_9 hts) P_Re_Re_6 rfl rfl dRe_init_15 (fun H locs hW => ?_)
  exact hq_vret hx hb hr hlocks h (Nat.le_of_ble_eq_true rfl) (Nat.le_of_ble_eq_true rfl) hW dRe_init_18
def fJo_isBroadcast (t0 : Nat) (S : Ws) : Option (Int32 × Ws) :=
  (gI S t0 [3, 4] 1).bind fun v1 => if v1 = 0 then (bz (1 : Int32)).bind fun z3 => some ((1 : Int32), S) else (bz (0 : Int32)).bind fun z2 => some ((0 : Int32), S)
set_option maxRecDepth 100000 in
set_option maxHeartbeats 4000000 in
theorem kJo_isBroadcast (l : Launch) (D : va_G) (tc : Nat → ClassId) (b : Nat) (t0 : Nat) (S Sz : Ws) (rr : Int32) (h : fJo_isBroadcast t0 S = some (rr, Sz)) : Met l yJo_isBroadcast wsJo_isBroadcast { frames := 1, cells := 0, slots := 0, locals := 40 } (va_Pc [.ref t0] (Wp D vwCl (hTy tc) b S)) (va_Qi (fun x (_ : Unit) => x = rr) (fun _ => Wp D vwCl (hTy tc) b Sz) (fun q => b ≤ q)) 0 0 (fun q => b ≤ q) := by
  refine hq_ofW (cc := cJo_isBroadcast) (maxL := 1) (ret := (some .boolean)) (by decide) rfl (Nat.le_of_ble_eq_true rfl) fun p e s m args below meth c hx hb hr hts hown hlocks hnm hml H locs ls hl hW => ?_
  have hts : ∀ w ∈ lwG, w.before args s = true := fun w h => hts w (List.mem_cons_of_mem _ h)
  have hown : s.vm.findClass "SerialPlant$Job" = some m.cls := hown
  have hl : lv_has ls 1 [(0, .ref t0)] := hl
  unfold fJo_isBroadcast at h
  refine lv_aload_n hx hb dJo_isBroadcast_0 rfl (lv_at hl 0 rfl) ?_
  replace h := ob h; obtain ⟨v1, ev1, h⟩ := h
  refine hq_get hx hb hts hown hW (gI_V ev1) (F_Jo_15 hts) dJo_isBroadcast_1 ?_
  refine lv_if_ne hx hb dJo_isBroadcast_4 (tgt := 11) rfl (fun hc4 => ?_) (fun hc4 => ?_)
  · replace h := if_f hc4 h
    refine lv_iconst hx hb dJo_isBroadcast_11 (v := (0 : Int32)) rfl ?_
    replace h := ob h; obtain ⟨z2, ez2, h⟩ := h
    exact hq_zret hx hb hr hlocks (bz_some ez2).2 h (Nat.le_of_ble_eq_true rfl) (Nat.le_of_ble_eq_true rfl) hW dJo_isBroadcast_12
  · replace h := if_t hc4 h
    refine lv_iconst hx hb dJo_isBroadcast_7 (v := (1 : Int32)) rfl ?_
    refine lv_goto hx hb dJo_isBroadcast_8 (tgt := 12) rfl ?_
    replace h := ob h; obtain ⟨z3, ez3, h⟩ := h
    exact hq_zret hx hb hr hlocks (bz_some ez3).2 h (Nat.le_of_ble_eq_true rfl) (Nat.le_of_ble_eq_true rfl) hW dJo_isBroadcast_12
def fRe_refuse (t0 : Nat) (t1 : Int32) (S : Ws) : Option (Ws) :=
  (pV S t0 [4] 6 (.int (2 : Int32))).bind fun S1 => (pV S1 t0 [4] 7 (.int t1)).bind fun S2 => some S2
set_option maxRecDepth 100000 in
set_option maxHeartbeats 4000000 in
theorem kRe_refuse (l : Launch) (D : va_G) (tc : Nat → ClassId) (b : Nat) (t0 : Nat) (t1 : Int32) (S Sz : Ws) (h : fRe_refuse t0 t1 S = some Sz) : Met l yRe_refuse wsRe_refuse { frames := 1, cells := 0, slots := 0, locals := 40 } (va_Pc [.ref t0, .int t1] (Wp D vwCl (hTy tc) b S)) (va_Qv (fun _ : Unit => True) (fun _ => Wp D vwCl (hTy tc) b Sz) (fun q => b ≤ q)) 0 0 (fun q => b ≤ q) := by
  refine hq_ofW (cc := cRe_refuse) (maxL := 2) (ret := none) (by decide) rfl (Nat.le_of_ble_eq_true rfl) fun p e s m args below meth c hx hb hr hts hown hlocks hnm hml H locs ls hl hW => ?_
  have hts : ∀ w ∈ lwG, w.before args s = true := fun w h => hts w (List.mem_cons_of_mem _ h)
  have hown : s.vm.findClass "SerialPlant$Request" = some m.cls := hown
  have hl : lv_has ls 2 [(0, .ref t0), (1, .int t1)] := hl
  unfold fRe_refuse at h
  refine lv_aload_n hx hb dRe_refuse_0 rfl (lv_at hl 0 rfl) ?_
  refine lv_iconst hx hb dRe_refuse_1 (v := (2 : Int32)) rfl ?_
  replace h := ob h; obtain ⟨S1, eS1, h⟩ := h
  refine hq_put hx hb hts hown hW eS1 (F_Re_9 hts) P_Re_Re_6 rfl rfl dRe_refuse_2 (fun H locs hW => ?_)
  refine lv_aload_n hx hb dRe_refuse_5 rfl (lv_at hl 0 rfl) ?_
  refine lv_iload_n hx hb dRe_refuse_6 rfl (lv_at hl 1 rfl) ?_
  replace h := ob h; obtain ⟨S2, eS2, h⟩ := h
  refine hq_put hx hb hts hown hW eS2 (F_Re_15 hts) P_Re_Re_7 rfl rfl dRe_refuse_7 (fun H locs hW => ?_)
  exact hq_vret hx hb hr hlocks h (Nat.le_of_ble_eq_true rfl) (Nat.le_of_ble_eq_true rfl) hW dRe_refuse_10
def fHi_keep (t0 : Nat) (t1 : Int32) (t2 : Int32) (t3 : Int32) (S : Ws) : Option (Ws) :=
  if t2 < 0 then some S else (gR S t0 [1] 3).bind fun r1 => (r1).bind fun a2 => (aN S a2 0).bind fun v3 => if v3 ≤ t2 then some S else (gR S t0 [1] 3).bind fun r4 => (r4).bind fun a5 => (aI S a5 0 t2).bind fun v6 => if v6 = t3 then some S else (gR S t0 [1] 3).bind fun r7 => (r7).bind fun a8 => (sI S a8 0 t2 t3).bind fun S9 => (gI S9 t0 [1] 4).bind fun v10 => (gI S9 t0 [1] 5).bind fun v11 => (gR S9 t0 [1] 0).bind fun r12 => (r12).bind fun a13 => (sI S9 a13 0 ((v10 + v11) - (v10 + v11) / (12 : Int32) * (12 : Int32)) t1).bind fun S14 => (gR S14 t0 [1] 1).bind fun r15 => (r15).bind fun a16 => (sI S14 a16 0 ((v10 + v11) - (v10 + v11) / (12 : Int32) * (12 : Int32)) t2).bind fun S17 => (gR S17 t0 [1] 2).bind fun r18 => (r18).bind fun a19 => (sI S17 a19 0 ((v10 + v11) - (v10 + v11) / (12 : Int32) * (12 : Int32)) t3).bind fun S20 => (gI S20 t0 [1] 5).bind fun v21 => if (12 : Int32) ≤ v21 then (gI S20 t0 [1] 4).bind fun v22 => (pV S20 t0 [1] 4 (.int ((v22 + (1 : Int32)) - (v22 + (1 : Int32)) / (12 : Int32) * (12 : Int32)))).bind fun S23 => some S23 else (gI S20 t0 [1] 5).bind fun v24 => (pV S20 t0 [1] 5 (.int (v24 + (1 : Int32)))).bind fun S25 => some S25
set_option maxRecDepth 100000 in
set_option maxHeartbeats 4000000 in
theorem kHi_keep (l : Launch) (D : va_G) (tc : Nat → ClassId) (b : Nat) (t0 : Nat) (t1 : Int32) (t2 : Int32) (t3 : Int32) (S Sz : Ws) (h : fHi_keep t0 t1 t2 t3 S = some Sz) : Met l yHi_keep wsHi_keep { frames := 1, cells := 0, slots := 0, locals := 40 } (va_Pc [.ref t0, .int t1, .int t2, .int t3] (Wp D vwCl (hTy tc) b S)) (va_Qv (fun _ : Unit => True) (fun _ => Wp D vwCl (hTy tc) b Sz) (fun q => b ≤ q)) 0 0 (fun q => b ≤ q) := by
  refine hq_ofW (cc := cHi_keep) (maxL := 5) (ret := none) (by decide) rfl (Nat.le_of_ble_eq_true rfl) fun p e s m args below meth c hx hb hr hts hown hlocks hnm hml H locs ls hl hW => ?_
  have hts : ∀ w ∈ lwG, w.before args s = true := fun w h => hts w (List.mem_cons_of_mem _ h)
  have hown : s.vm.findClass "SerialPlant$History" = some m.cls := hown
  have hl : lv_has ls 5 [(0, .ref t0), (1, .int t1), (2, .int t2), (3, .int t3)] := hl
  unfold fHi_keep at h
  refine lv_iload_n hx hb dHi_keep_0 rfl (lv_at hl 2 rfl) ?_
  refine lv_if_lt hx hb dHi_keep_1 (tgt := 23) rfl (fun hc29 => ?_) (fun hc29 => ?_)
  · replace h := if_t hc29 h
    exact hq_vret hx hb hr hlocks h (Nat.le_of_ble_eq_true rfl) (Nat.le_of_ble_eq_true rfl) hW dHi_keep_23
  · replace h := if_f hc29 h
    refine lv_iload_n hx hb dHi_keep_4 rfl (lv_at hl 2 rfl) ?_
    refine lv_aload_n hx hb dHi_keep_5 rfl (lv_at hl 0 rfl) ?_
    replace h := ob h; obtain ⟨r1, er1, h⟩ := h
    refine hq_get hx hb hts hown hW (gR_V er1) (F_Hi_21 hts) dHi_keep_6 ?_
    replace h := ob h; obtain ⟨a2, hra2, h⟩ := h
    subst hra2
    replace h := ob h; obtain ⟨v3, ev3, h⟩ := h
    refine hq_alen hx hb hW ev3 rfl dHi_keep_9 ?_
    refine lv_icmp_ge hx hb dHi_keep_10 (tgt := 23) rfl (fun hc28 => ?_) (fun hc28 => ?_)
    · replace h := if_t hc28 h
      exact hq_vret hx hb hr hlocks h (Nat.le_of_ble_eq_true rfl) (Nat.le_of_ble_eq_true rfl) hW dHi_keep_23
    · replace h := if_f hc28 h
      refine lv_aload_n hx hb dHi_keep_13 rfl (lv_at hl 0 rfl) ?_
      replace h := ob h; obtain ⟨r4, er4, h⟩ := h
      refine hq_get hx hb hts hown hW (gR_V er4) (F_Hi_21 hts) dHi_keep_14 ?_
      refine lv_iload_n hx hb dHi_keep_17 rfl (lv_at hl 2 rfl) ?_
      replace h := ob h; obtain ⟨a5, hra5, h⟩ := h
      subst hra5
      replace h := ob h; obtain ⟨v6, ev6, h⟩ := h
      refine hq_iald hx hb hW ev6 rfl dHi_keep_18 ?_
      refine lv_iload_n hx hb dHi_keep_19 rfl (lv_at hl 3 rfl) ?_
      refine lv_icmp_ne hx hb dHi_keep_20 (tgt := 24) rfl (fun hc27 => ?_) (fun hc27 => ?_)
      · replace h := if_f hc27 h
        refine lv_aload_n hx hb dHi_keep_24 rfl (lv_at hl 0 rfl) ?_
        replace h := ob h; obtain ⟨r7, er7, h⟩ := h
        refine hq_get hx hb hts hown hW (gR_V er7) (F_Hi_21 hts) dHi_keep_25 ?_
        refine lv_iload_n hx hb dHi_keep_28 rfl (lv_at hl 2 rfl) ?_
        refine lv_iload_n hx hb dHi_keep_29 rfl (lv_at hl 3 rfl) ?_
        replace h := ob h; obtain ⟨a8, hra8, h⟩ := h
        subst hra8
        replace h := ob h; obtain ⟨S9, eS9, h⟩ := h
        refine hq_iast hx hb hW eS9 rfl dHi_keep_30 (fun H locs hW => ?_)
        refine lv_aload_n hx hb dHi_keep_31 rfl (lv_at hl 0 rfl) ?_
        replace h := ob h; obtain ⟨v10, ev10, h⟩ := h
        refine hq_get hx hb hts hown hW (gI_V ev10) (F_Hi_24 hts) dHi_keep_32 ?_
        refine lv_aload_n hx hb dHi_keep_35 rfl (lv_at hl 0 rfl) ?_
        replace h := ob h; obtain ⟨v11, ev11, h⟩ := h
        refine hq_get hx hb hts hown hW (gI_V ev11) (F_Hi_28 hts) dHi_keep_36 ?_
        refine lv_iadd hx hb dHi_keep_39 ?_
        refine lv_bipush hx hb dHi_keep_40 (v := (12 : Int32)) rfl ?_
        refine lv_irem hx hb dHi_keep_42 (by decide) ?_
        refine lv_istore (lv' := [(4, .int ((v10 + v11) - (v10 + v11) / (12 : Int32) * (12 : Int32))), (0, .ref t0), (1, .int t1), (2, .int t2), (3, .int t3)]) hx hb dHi_keep_43 hl (Nat.le_of_ble_eq_true rfl) (by first | rfl | (simp [List.filter, rf_cat] <;> rfl)) (fun ls hl => ?_)
        refine lv_aload_n hx hb dHi_keep_45 rfl (lv_at hl 1 rfl) ?_
        replace h := ob h; obtain ⟨r12, er12, h⟩ := h
        refine hq_get hx hb hts hown hW (gR_V er12) (F_Hi_9 hts) dHi_keep_46 ?_
        refine lv_iload hx hb dHi_keep_49 (lv_at hl 0 rfl) ?_
        refine lv_iload_n hx hb dHi_keep_51 rfl (lv_at hl 2 rfl) ?_
        replace h := ob h; obtain ⟨a13, hra13, h⟩ := h
        subst hra13
        replace h := ob h; obtain ⟨S14, eS14, h⟩ := h
        refine hq_iast hx hb hW eS14 rfl dHi_keep_52 (fun H locs hW => ?_)
        refine lv_aload_n hx hb dHi_keep_53 rfl (lv_at hl 1 rfl) ?_
        replace h := ob h; obtain ⟨r15, er15, h⟩ := h
        refine hq_get hx hb hts hown hW (gR_V er15) (F_Hi_15 hts) dHi_keep_54 ?_
        refine lv_iload hx hb dHi_keep_57 (lv_at hl 0 rfl) ?_
        refine lv_iload_n hx hb dHi_keep_59 rfl (lv_at hl 3 rfl) ?_
        replace h := ob h; obtain ⟨a16, hra16, h⟩ := h
        subst hra16
        replace h := ob h; obtain ⟨S17, eS17, h⟩ := h
        refine hq_iast hx hb hW eS17 rfl dHi_keep_60 (fun H locs hW => ?_)
        refine lv_aload_n hx hb dHi_keep_61 rfl (lv_at hl 1 rfl) ?_
        replace h := ob h; obtain ⟨r18, er18, h⟩ := h
        refine hq_get hx hb hts hown hW (gR_V er18) (F_Hi_18 hts) dHi_keep_62 ?_
        refine lv_iload hx hb dHi_keep_65 (lv_at hl 0 rfl) ?_
        refine lv_iload_n hx hb dHi_keep_67 rfl (lv_at hl 4 rfl) ?_
        replace h := ob h; obtain ⟨a19, hra19, h⟩ := h
        subst hra19
        replace h := ob h; obtain ⟨S20, eS20, h⟩ := h
        refine hq_iast hx hb hW eS20 rfl dHi_keep_68 (fun H locs hW => ?_)
        refine lv_aload_n hx hb dHi_keep_69 rfl (lv_at hl 1 rfl) ?_
        replace h := ob h; obtain ⟨v21, ev21, h⟩ := h
        refine hq_get hx hb hts hown hW (gI_V ev21) (F_Hi_28 hts) dHi_keep_70 ?_
        refine lv_bipush hx hb dHi_keep_73 (v := (12 : Int32)) rfl ?_
        refine lv_icmp_ge hx hb dHi_keep_75 (tgt := 91) rfl (fun hc26 => ?_) (fun hc26 => ?_)
        · replace h := if_t hc26 h
          refine lv_aload_n hx hb dHi_keep_91 rfl (lv_at hl 1 rfl) ?_
          refine lv_aload_n hx hb dHi_keep_92 rfl (lv_at hl 1 rfl) ?_
          replace h := ob h; obtain ⟨v22, ev22, h⟩ := h
          refine hq_get hx hb hts hown hW (gI_V ev22) (F_Hi_24 hts) dHi_keep_93 ?_
          refine lv_iconst hx hb dHi_keep_96 (v := (1 : Int32)) rfl ?_
          refine lv_iadd hx hb dHi_keep_97 ?_
          refine lv_bipush hx hb dHi_keep_98 (v := (12 : Int32)) rfl ?_
          refine lv_irem hx hb dHi_keep_100 (by decide) ?_
          replace h := ob h; obtain ⟨S23, eS23, h⟩ := h
          refine hq_put hx hb hts hown hW eS23 (F_Hi_24 hts) P_Hi_Hi_4 rfl rfl dHi_keep_101 (fun H locs hW => ?_)
          exact hq_vret hx hb hr hlocks h (Nat.le_of_ble_eq_true rfl) (Nat.le_of_ble_eq_true rfl) hW dHi_keep_104
        · replace h := if_f hc26 h
          refine lv_aload_n hx hb dHi_keep_78 rfl (lv_at hl 1 rfl) ?_
          refine lv_dup hx hb dHi_keep_79 rfl ?_
          replace h := ob h; obtain ⟨v24, ev24, h⟩ := h
          refine hq_get hx hb hts hown hW (gI_V ev24) (F_Hi_28 hts) dHi_keep_80 ?_
          refine lv_iconst hx hb dHi_keep_83 (v := (1 : Int32)) rfl ?_
          refine lv_iadd hx hb dHi_keep_84 ?_
          replace h := ob h; obtain ⟨S25, eS25, h⟩ := h
          refine hq_put hx hb hts hown hW eS25 (F_Hi_28 hts) P_Hi_Hi_5 rfl rfl dHi_keep_85 (fun H locs hW => ?_)
          refine lv_goto hx hb dHi_keep_88 (tgt := 104) rfl ?_
          exact hq_vret hx hb hr hlocks h (Nat.le_of_ble_eq_true rfl) (Nat.le_of_ble_eq_true rfl) hW dHi_keep_104
      · replace h := if_t hc27 h
        exact hq_vret hx hb hr hlocks h (Nat.le_of_ble_eq_true rfl) (Nat.le_of_ble_eq_true rfl) hW dHi_keep_23
def fPo_take (t0 : Nat) (t1 : Nat) (t2 : Int32) (S : Ws) : Option (Ws) :=
  (gO S t1 [0]).bind fun q3 => (fFr_byteAt t1 (1 : Int32) S).bind fun (v2, S1) => if (128 : Int32) ≤ v2 then some S1 else (gR S1 t0 [3] 7).bind fun r4 => (gI S1 t0 [3] 6).bind fun v5 => (gO S1 t1 [0]).bind fun q8 => (fFr_wordAt t1 (3 : Int32) S1).bind fun (v7, S6) => (r4).bind fun a9 => (gO S6 a9 [1]).bind fun q11 => (fHi_keep a9 t2 v5 v7 S6).bind fun S10 => some S10
set_option maxRecDepth 100000 in
set_option maxHeartbeats 4000000 in
theorem kPo_take (l : Launch) (D : va_G) (tc : Nat → ClassId) (b : Nat) (t0 : Nat) (t1 : Nat) (t2 : Int32) (S Sz : Ws) (h : fPo_take t0 t1 t2 S = some Sz) : Met l yPo_take wsPo_take { frames := 2, cells := 0, slots := 0, locals := 80 } (va_Pc [.ref t0, .ref t1, .int t2] (Wp D vwCl (hTy tc) b S)) (va_Qv (fun _ : Unit => True) (fun _ => Wp D vwCl (hTy tc) b Sz) (fun q => b ≤ q)) 0 0 (fun q => b ≤ q) := by
  refine hq_ofW (cc := cPo_take) (maxL := 3) (ret := none) (by decide) rfl (Nat.le_of_ble_eq_true rfl) fun p e s m args below meth c hx hb hr hts hown hlocks hnm hml H locs ls hl hW => ?_
  have hts : ∀ w ∈ lwG, w.before args s = true := fun w h => hts w (List.mem_cons_of_mem _ h)
  have hown : s.vm.findClass "SerialPlant$Poll" = some m.cls := hown
  have hl : lv_has ls 3 [(0, .ref t0), (1, .ref t1), (2, .int t2)] := hl
  unfold fPo_take at h
  refine lv_aload_n hx hb dPo_take_0 rfl (lv_at hl 1 rfl) ?_
  refine lv_iconst hx hb dPo_take_1 (v := (1 : Int32)) rfl ?_
  replace h := ob h; obtain ⟨q3, eq3, h⟩ := h
  replace h := ob h; obtain ⟨⟨v2, S1⟩, eS1, h⟩ := h
  refine hq_calli (ce := 0) (sl := 0) (va_runV (As := [.int (1 : Int32)]) (rest := []) ⟨hx, hb, hml, hown, hts⟩ (kFr_byteAt l D tc b t1 (1 : Int32) S _ _ eS1) (cwV 1 hts GV_Po_19_Fr rfl rfl rfl hd_Fr_byteAt_V ⟨Nat.le_of_ble_eq_true rfl, Nat.le_of_ble_eq_true rfl⟩) (hq_preV1 hW eq3 rfl rfl) rfl rfl hl.1 rfl (lv_room (by first | exact Nat.le_of_ble_eq_true rfl | (simp only [List.map, rf_cat]; exact Nat.le_of_ble_eq_true rfl))) dPo_take_2 ⟨Nat.le_of_ble_eq_true rfl, Nat.le_of_ble_eq_true rfl⟩) hW rfl rfl (fun H locs hW => ?_)
  refine lv_sipush hx hb dPo_take_5 (v := (128 : Int32)) rfl ?_
  refine lv_icmp_ge hx hb dPo_take_8 (tgt := 28) rfl (fun hc12 => ?_) (fun hc12 => ?_)
  · replace h := if_t hc12 h
    exact hq_vret hx hb hr hlocks h (Nat.le_of_ble_eq_true rfl) (Nat.le_of_ble_eq_true rfl) hW dPo_take_28
  · replace h := if_f hc12 h
    refine lv_aload_n hx hb dPo_take_11 rfl (lv_at hl 0 rfl) ?_
    replace h := ob h; obtain ⟨r4, er4, h⟩ := h
    refine hq_get hx hb hts hown hW (gR_V er4) (F_Po_15 hts) dPo_take_12 ?_
    refine lv_iload_n hx hb dPo_take_15 rfl (lv_at hl 2 rfl) ?_
    refine lv_aload_n hx hb dPo_take_16 rfl (lv_at hl 0 rfl) ?_
    replace h := ob h; obtain ⟨v5, ev5, h⟩ := h
    refine hq_get hx hb hts hown hW (gI_V ev5) (F_Po_9 hts) dPo_take_17 ?_
    refine lv_aload_n hx hb dPo_take_20 rfl (lv_at hl 1 rfl) ?_
    refine lv_iconst hx hb dPo_take_21 (v := (3 : Int32)) rfl ?_
    replace h := ob h; obtain ⟨q8, eq8, h⟩ := h
    replace h := ob h; obtain ⟨⟨v7, S6⟩, eS6, h⟩ := h
    refine hq_calli (ce := 0) (sl := 0) (va_runV (As := [.int (3 : Int32)]) (rest := [.int v5, .int t2, va_rf r4]) ⟨hx, hb, hml, hown, hts⟩ (kFr_wordAt l D tc b t1 (3 : Int32) S1 _ _ eS6) (cwV 1 hts GV_Po_25_Fr rfl rfl rfl hd_Fr_wordAt_V ⟨Nat.le_of_ble_eq_true rfl, Nat.le_of_ble_eq_true rfl⟩) (hq_preV1 hW eq8 rfl rfl) rfl rfl hl.1 rfl (lv_room (by first | exact Nat.le_of_ble_eq_true rfl | (simp only [List.map, rf_cat]; exact Nat.le_of_ble_eq_true rfl))) dPo_take_22 ⟨Nat.le_of_ble_eq_true rfl, Nat.le_of_ble_eq_true rfl⟩) hW rfl rfl (fun H locs hW => ?_)
    replace h := ob h; obtain ⟨a9, hra9, h⟩ := h
    subst hra9
    replace h := ob h; obtain ⟨q11, eq11, h⟩ := h
    replace h := ob h; obtain ⟨S10, eS10, h⟩ := h
    refine hq_callv (ce := 0) (sl := 0) (va_runV (As := [.int t2, .int v5, .int v7]) (rest := []) ⟨hx, hb, hml, hown, hts⟩ (kHi_keep l D tc b a9 t2 v5 v7 S6 _ eS10) (cwV 3 hts GV_Po_28_Hi rfl rfl rfl hd_Hi_keep_V ⟨Nat.le_of_ble_eq_true rfl, Nat.le_of_ble_eq_true rfl⟩) (hq_preV1 hW eq11 rfl rfl) rfl rfl hl.1 rfl (lv_room (by first | exact Nat.le_of_ble_eq_true rfl | (simp only [List.map, rf_cat]; exact Nat.le_of_ble_eq_true rfl))) dPo_take_25 ⟨Nat.le_of_ble_eq_true rfl, Nat.le_of_ble_eq_true rfl⟩) hW rfl rfl (fun H locs hW => ?_)
    exact hq_vret hx hb hr hlocks h (Nat.le_of_ble_eq_true rfl) (Nat.le_of_ble_eq_true rfl) hW dPo_take_28
def fJo_bitBytes (t0 : Nat) (S : Ws) : Option (Int32 × Ws) :=
  (gI S t0 [3, 4] 4).bind fun v1 => some ((v1 + (7 : Int32)) / (8 : Int32), S)
set_option maxRecDepth 100000 in
set_option maxHeartbeats 4000000 in
theorem kJo_bitBytes (l : Launch) (D : va_G) (tc : Nat → ClassId) (b : Nat) (t0 : Nat) (S Sz : Ws) (rr : Int32) (h : fJo_bitBytes t0 S = some (rr, Sz)) : Met l yJo_bitBytes wsJo_bitBytes { frames := 1, cells := 0, slots := 0, locals := 40 } (va_Pc [.ref t0] (Wp D vwCl (hTy tc) b S)) (va_Qi (fun x (_ : Unit) => x = rr) (fun _ => Wp D vwCl (hTy tc) b Sz) (fun q => b ≤ q)) 0 0 (fun q => b ≤ q) := by
  refine hq_ofW (cc := cJo_bitBytes) (maxL := 1) (ret := (some .int)) (by decide) rfl (Nat.le_of_ble_eq_true rfl) fun p e s m args below meth c hx hb hr hts hown hlocks hnm hml H locs ls hl hW => ?_
  have hts : ∀ w ∈ lwG, w.before args s = true := fun w h => hts w (List.mem_cons_of_mem _ h)
  have hown : s.vm.findClass "SerialPlant$Job" = some m.cls := hown
  have hl : lv_has ls 1 [(0, .ref t0)] := hl
  unfold fJo_bitBytes at h
  refine lv_aload_n hx hb dJo_bitBytes_0 rfl (lv_at hl 0 rfl) ?_
  replace h := ob h; obtain ⟨v1, ev1, h⟩ := h
  refine hq_get hx hb hts hown hW (gI_V ev1) (F_Jo_24 hts) dJo_bitBytes_1 ?_
  refine lv_bipush hx hb dJo_bitBytes_4 (v := (7 : Int32)) rfl ?_
  refine lv_iadd hx hb dJo_bitBytes_6 ?_
  refine lv_bipush hx hb dJo_bitBytes_7 (v := (8 : Int32)) rfl ?_
  refine lv_idiv hx hb dJo_bitBytes_9 (by decide) ?_
  exact hq_iret hx hb hr hlocks h (Nat.le_of_ble_eq_true rfl) (Nat.le_of_ble_eq_true rfl) hW dJo_bitBytes_10
def fRe_readBits_L5 (t0 : Nat) (t1 : Nat) : Int64 × Int32 × Ws → Option ((Int64 × Int32 × Ws) ⊕ (Int64 × Ws)) :=
  fun (j1, i2, S3) => (gO S3 t0 [4]).bind fun q9 => (fJo_bitBytes t0 S3).bind fun (v8, S7) => if v8 ≤ i2 then some (.inr (j1, S7)) else (gO S7 t1 [0]).bind fun q12 => (fFr_byteAt t1 ((3 : Int32) + i2) S7).bind fun (v11, S10) => some (.inl (j1 ||| (v11.toInt64 <<< (((8 : Int32) * i2).toInt64 &&& 63)), i2 + 1, S10))
def fRe_readBits (t0 : Nat) (t1 : Nat) (S : Ws) : Option (Int64 × Ws) :=
  (lp (fRe_readBits_L5 t0 t1) 1000 ((0 : Int64), (0 : Int32), S)).bind fun (j5, S6) => some (j5, S6)
set_option maxRecDepth 100000 in
set_option maxHeartbeats 4000000 in
theorem kRe_readBits (l : Launch) (D : va_G) (tc : Nat → ClassId) (b : Nat) (t0 : Nat) (t1 : Nat) (S Sz : Ws) (rr : Int64) (h : fRe_readBits t0 t1 S = some (rr, Sz)) : Met l yRe_readBits wsRe_readBits { frames := 2, cells := 0, slots := 0, locals := 80 } (va_Pc [.ref t0, .ref t1] (Wp D vwCl (hTy tc) b S)) (va_Ql (fun x (_ : Unit) => x = rr) (fun _ => Wp D vwCl (hTy tc) b Sz) (fun q => b ≤ q)) 0 0 (fun q => b ≤ q) := by
  refine hq_ofW (cc := cRe_readBits) (maxL := 5) (ret := (some .long)) (by decide) rfl (Nat.le_of_ble_eq_true rfl) fun p e s m args below meth c hx hb hr hts hown hlocks hnm hml H locs ls hl hW => ?_
  have hts : ∀ w ∈ lwG, w.before args s = true := fun w h => hts w (List.mem_cons_of_mem _ h)
  have hown : s.vm.findClass "SerialPlant$Request" = some m.cls := hown
  have hl : lv_has ls 5 [(0, .ref t0), (1, .ref t1)] := hl
  unfold fRe_readBits at h
  refine lv_lconst hx hb dRe_readBits_0 (v := (0 : Int64)) rfl ?_
  refine lv_lstore_n (lv' := [(2, .long (0 : Int64)), (0, .ref t0), (1, .ref t1)]) hx hb dRe_readBits_1 rfl hl (Nat.le_of_ble_eq_true rfl) (by first | rfl | (simp [List.filter, rf_cat] <;> rfl)) (fun ls hl => ?_)
  refine lv_iconst hx hb dRe_readBits_2 (v := (0 : Int32)) rfl ?_
  refine lv_istore (lv' := [(4, .int (0 : Int32)), (2, .long (0 : Int64)), (0, .ref t0), (1, .ref t1)]) hx hb dRe_readBits_3 hl (Nat.le_of_ble_eq_true rfl) (by first | rfl | (simp [List.filter, rf_cat] <;> rfl)) (fun ls hl => ?_)
  replace h := ob h; obtain ⟨q14, eq14, h⟩ := h
  have hX : (fun q' => ∀ (H : Heap) (locs : List Loc) (ls : Array Slot), lv_has ls 5 [(2, .long q'.1)] → Wd D vwCl (hTy tc) b q'.2 s H locs → W p l e { frames := 2, cells := 0, slots := 0, locals := 80 } s m args below meth c H locs 0 0 (MQ below (va_Ql (fun x (_ : Unit) => x = rr) (fun _ => Wp D vwCl (hTy tc) b Sz) (fun q => b ≤ q)) args s 0 0 (fun q => b ≤ q)) (F0 m 38 ls [])) q14 := by
    obtain ⟨j5, S6⟩ := q14
    intro H locs ls hl hW
    refine lv_lload_n hx hb dRe_readBits_38 rfl (lv_at hl 0 rfl) ?_
    exact hq_lret hx hb hr hlocks h (Nat.le_of_ble_eq_true rfl) (Nat.le_of_ble_eq_true rfl) hW dRe_readBits_39
  refine lp_ind (P := fun q' => ∀ (H : Heap) (locs : List Loc) (ls : Array Slot), lv_has ls 5 [(0, .ref t0), (1, .ref t1), (2, .long q'.1), (4, .int q'.2.1)] → Wd D vwCl (hTy tc) b q'.2.2 s H locs → W p l e { frames := 2, cells := 0, slots := 0, locals := 80 } s m args below meth c H locs 0 0 (MQ below (va_Ql (fun x (_ : Unit) => x = rr) (fun _ => Wp D vwCl (hTy tc) b Sz) (fun q => b ≤ q)) args s 0 0 (fun q => b ≤ q)) (F0 m 5 ls [])) (Q := fun q' => ∀ (H : Heap) (locs : List Loc) (ls : Array Slot), lv_has ls 5 [(2, .long q'.1)] → Wd D vwCl (hTy tc) b q'.2 s H locs → W p l e { frames := 2, cells := 0, slots := 0, locals := 80 } s m args below meth c H locs 0 0 (MQ below (va_Ql (fun x (_ : Unit) => x = rr) (fun _ => Wp D vwCl (hTy tc) b Sz) (fun q => b ≤ q)) args s 0 0 (fun q => b ≤ q)) (F0 m 38 ls [])) (fun q' x4 h hin hex => ?_) hX _ _ eq14 _ _ _ (lv_sub hl [2, 3, 1, 0] rfl) hW
  obtain ⟨j1, i2, S3⟩ := q'
  intro H locs ls hl hW
  unfold fRe_readBits_L5 at h
  refine lv_iload hx hb dRe_readBits_5 (lv_at hl 3 rfl) ?_
  refine lv_aload_n hx hb dRe_readBits_7 rfl (lv_at hl 0 rfl) ?_
  replace h := ob h; obtain ⟨q9, eq9, h⟩ := h
  replace h := ob h; obtain ⟨⟨v8, S7⟩, eS7, h⟩ := h
  refine hq_calli (ce := 0) (sl := 0) (va_runU (As := []) (rest := [.int i2]) ⟨hx, hb, hml, hown, hts⟩ (kJo_bitBytes l D tc b t0 S3 _ _ eS7) (va_cwU 0 hts GU_Re_48_Re rfl rfl rfl rfl hd_Jo_bitBytes_U ⟨Nat.le_of_ble_eq_true rfl, Nat.le_of_ble_eq_true rfl⟩) (hq_preV1 hW eq9 rfl rfl) rfl rfl hl.1 rfl (lv_room (by first | exact Nat.le_of_ble_eq_true rfl | (simp only [List.map, rf_cat]; exact Nat.le_of_ble_eq_true rfl))) dRe_readBits_8 ⟨Nat.le_of_ble_eq_true rfl, Nat.le_of_ble_eq_true rfl⟩) hW rfl rfl (fun H locs hW => ?_)
  refine lv_icmp_ge hx hb dRe_readBits_11 (tgt := 38) rfl (fun hc13 => ?_) (fun hc13 => ?_)
  · replace h := if_t hc13 h
    exact hex _ (Option.some.inj h).symm _ _ _ (lv_sub hl [2] rfl) hW
  · replace h := if_f hc13 h
    refine lv_lload_n hx hb dRe_readBits_14 rfl (lv_at hl 2 rfl) ?_
    refine lv_aload_n hx hb dRe_readBits_15 rfl (lv_at hl 1 rfl) ?_
    refine lv_iconst hx hb dRe_readBits_16 (v := (3 : Int32)) rfl ?_
    refine lv_iload hx hb dRe_readBits_17 (lv_at hl 3 rfl) ?_
    refine lv_iadd hx hb dRe_readBits_19 ?_
    replace h := ob h; obtain ⟨q12, eq12, h⟩ := h
    replace h := ob h; obtain ⟨⟨v11, S10⟩, eS10, h⟩ := h
    refine hq_calli (ce := 0) (sl := 0) (va_runV (As := [.int ((3 : Int32) + i2)]) (rest := [.long j1]) ⟨hx, hb, hml, hown, hts⟩ (kFr_byteAt l D tc b t1 ((3 : Int32) + i2) S7 _ _ eS10) (cwV 1 hts GV_Re_18_Fr rfl rfl rfl hd_Fr_byteAt_V ⟨Nat.le_of_ble_eq_true rfl, Nat.le_of_ble_eq_true rfl⟩) (hq_preV1 hW eq12 rfl rfl) rfl rfl hl.1 rfl (lv_room (by first | exact Nat.le_of_ble_eq_true rfl | (simp only [List.map, rf_cat]; exact Nat.le_of_ble_eq_true rfl))) dRe_readBits_20 ⟨Nat.le_of_ble_eq_true rfl, Nat.le_of_ble_eq_true rfl⟩) hW rfl rfl (fun H locs hW => ?_)
    refine lv_i2l hx hb dRe_readBits_23 (v := v11.toInt64) rfl ?_
    refine lv_bipush hx hb dRe_readBits_24 (v := (8 : Int32)) rfl ?_
    refine lv_iload hx hb dRe_readBits_26 (lv_at hl 3 rfl) ?_
    refine lv_imul hx hb dRe_readBits_28 ?_
    refine lv_lshl hx hb dRe_readBits_29 (v := v11.toInt64 <<< (((8 : Int32) * i2).toInt64 &&& 63)) rfl ?_
    refine lv_lor hx hb dRe_readBits_30 ?_
    refine lv_lstore_n (lv' := [(2, .long (j1 ||| (v11.toInt64 <<< (((8 : Int32) * i2).toInt64 &&& 63)))), (0, .ref t0), (1, .ref t1), (4, .int i2)]) hx hb dRe_readBits_31 rfl hl (Nat.le_of_ble_eq_true rfl) (by first | rfl | (simp [List.filter, rf_cat] <;> rfl)) (fun ls hl => ?_)
    refine lv_iinc (k := 3) (v := i2 + 1) (lv' := [(4, .int (i2 + 1)), (2, .long (j1 ||| (v11.toInt64 <<< (((8 : Int32) * i2).toInt64 &&& 63)))), (0, .ref t0), (1, .ref t1)]) hx hb dRe_readBits_32 hl rfl rfl (Nat.le_of_ble_eq_true rfl) (by first | rfl | (simp [List.filter, rf_cat] <;> rfl)) (fun ls hl => ?_)
    refine lv_goto hx hb dRe_readBits_35 (tgt := 5) rfl ?_
    exact hin _ (Option.some.inj h).symm _ _ _ (lv_sub hl [2, 3, 1, 0] rfl) hW
def fRe_readWords_L5 (t0 : Nat) (t1 : Nat) : Int64 × Int32 × Ws → Option ((Int64 × Int32 × Ws) ⊕ (Int64 × Ws)) :=
  fun (j1, i2, S3) => (gI S3 t0 [4] 4).bind fun v7 => if v7 ≤ i2 then some (.inr (j1, S3)) else (gO S3 t1 [0]).bind fun q10 => (fFr_wordAt t1 ((3 : Int32) + ((2 : Int32) * i2)) S3).bind fun (v9, S8) => some (.inl (j1 ||| (v9.toInt64 <<< (((16 : Int32) * i2).toInt64 &&& 63)), i2 + 1, S8))
def fRe_readWords (t0 : Nat) (t1 : Nat) (S : Ws) : Option (Int64 × Ws) :=
  (lp (fRe_readWords_L5 t0 t1) 1000 ((0 : Int64), (0 : Int32), S)).bind fun (j5, S6) => some (j5, S6)
set_option maxRecDepth 100000 in
set_option maxHeartbeats 4000000 in
theorem kRe_readWords (l : Launch) (D : va_G) (tc : Nat → ClassId) (b : Nat) (t0 : Nat) (t1 : Nat) (S Sz : Ws) (rr : Int64) (h : fRe_readWords t0 t1 S = some (rr, Sz)) : Met l yRe_readWords wsRe_readWords { frames := 2, cells := 0, slots := 0, locals := 80 } (va_Pc [.ref t0, .ref t1] (Wp D vwCl (hTy tc) b S)) (va_Ql (fun x (_ : Unit) => x = rr) (fun _ => Wp D vwCl (hTy tc) b Sz) (fun q => b ≤ q)) 0 0 (fun q => b ≤ q) := by
  refine hq_ofW (cc := cRe_readWords) (maxL := 5) (ret := (some .long)) (by decide) rfl (Nat.le_of_ble_eq_true rfl) fun p e s m args below meth c hx hb hr hts hown hlocks hnm hml H locs ls hl hW => ?_
  have hts : ∀ w ∈ lwG, w.before args s = true := fun w h => hts w (List.mem_cons_of_mem _ h)
  have hown : s.vm.findClass "SerialPlant$Request" = some m.cls := hown
  have hl : lv_has ls 5 [(0, .ref t0), (1, .ref t1)] := hl
  unfold fRe_readWords at h
  refine lv_lconst hx hb dRe_readWords_0 (v := (0 : Int64)) rfl ?_
  refine lv_lstore_n (lv' := [(2, .long (0 : Int64)), (0, .ref t0), (1, .ref t1)]) hx hb dRe_readWords_1 rfl hl (Nat.le_of_ble_eq_true rfl) (by first | rfl | (simp [List.filter, rf_cat] <;> rfl)) (fun ls hl => ?_)
  refine lv_iconst hx hb dRe_readWords_2 (v := (0 : Int32)) rfl ?_
  refine lv_istore (lv' := [(4, .int (0 : Int32)), (2, .long (0 : Int64)), (0, .ref t0), (1, .ref t1)]) hx hb dRe_readWords_3 hl (Nat.le_of_ble_eq_true rfl) (by first | rfl | (simp [List.filter, rf_cat] <;> rfl)) (fun ls hl => ?_)
  replace h := ob h; obtain ⟨q12, eq12, h⟩ := h
  have hX : (fun q' => ∀ (H : Heap) (locs : List Loc) (ls : Array Slot), lv_has ls 5 [(2, .long q'.1)] → Wd D vwCl (hTy tc) b q'.2 s H locs → W p l e { frames := 2, cells := 0, slots := 0, locals := 80 } s m args below meth c H locs 0 0 (MQ below (va_Ql (fun x (_ : Unit) => x = rr) (fun _ => Wp D vwCl (hTy tc) b Sz) (fun q => b ≤ q)) args s 0 0 (fun q => b ≤ q)) (F0 m 40 ls [])) q12 := by
    obtain ⟨j5, S6⟩ := q12
    intro H locs ls hl hW
    refine lv_lload_n hx hb dRe_readWords_40 rfl (lv_at hl 0 rfl) ?_
    exact hq_lret hx hb hr hlocks h (Nat.le_of_ble_eq_true rfl) (Nat.le_of_ble_eq_true rfl) hW dRe_readWords_41
  refine lp_ind (P := fun q' => ∀ (H : Heap) (locs : List Loc) (ls : Array Slot), lv_has ls 5 [(0, .ref t0), (1, .ref t1), (2, .long q'.1), (4, .int q'.2.1)] → Wd D vwCl (hTy tc) b q'.2.2 s H locs → W p l e { frames := 2, cells := 0, slots := 0, locals := 80 } s m args below meth c H locs 0 0 (MQ below (va_Ql (fun x (_ : Unit) => x = rr) (fun _ => Wp D vwCl (hTy tc) b Sz) (fun q => b ≤ q)) args s 0 0 (fun q => b ≤ q)) (F0 m 5 ls [])) (Q := fun q' => ∀ (H : Heap) (locs : List Loc) (ls : Array Slot), lv_has ls 5 [(2, .long q'.1)] → Wd D vwCl (hTy tc) b q'.2 s H locs → W p l e { frames := 2, cells := 0, slots := 0, locals := 80 } s m args below meth c H locs 0 0 (MQ below (va_Ql (fun x (_ : Unit) => x = rr) (fun _ => Wp D vwCl (hTy tc) b Sz) (fun q => b ≤ q)) args s 0 0 (fun q => b ≤ q)) (F0 m 40 ls [])) (fun q' x4 h hin hex => ?_) hX _ _ eq12 _ _ _ (lv_sub hl [2, 3, 1, 0] rfl) hW
  obtain ⟨j1, i2, S3⟩ := q'
  intro H locs ls hl hW
  unfold fRe_readWords_L5 at h
  refine lv_iload hx hb dRe_readWords_5 (lv_at hl 3 rfl) ?_
  refine lv_aload_n hx hb dRe_readWords_7 rfl (lv_at hl 0 rfl) ?_
  replace h := ob h; obtain ⟨v7, ev7, h⟩ := h
  refine hq_get hx hb hts hown hW (gI_V ev7) (F_Re_52 hts) dRe_readWords_8 ?_
  refine lv_icmp_ge hx hb dRe_readWords_11 (tgt := 40) rfl (fun hc11 => ?_) (fun hc11 => ?_)
  · replace h := if_t hc11 h
    exact hex _ (Option.some.inj h).symm _ _ _ (lv_sub hl [2] rfl) hW
  · replace h := if_f hc11 h
    refine lv_lload_n hx hb dRe_readWords_14 rfl (lv_at hl 2 rfl) ?_
    refine lv_aload_n hx hb dRe_readWords_15 rfl (lv_at hl 1 rfl) ?_
    refine lv_iconst hx hb dRe_readWords_16 (v := (3 : Int32)) rfl ?_
    refine lv_iconst hx hb dRe_readWords_17 (v := (2 : Int32)) rfl ?_
    refine lv_iload hx hb dRe_readWords_18 (lv_at hl 3 rfl) ?_
    refine lv_imul hx hb dRe_readWords_20 ?_
    refine lv_iadd hx hb dRe_readWords_21 ?_
    replace h := ob h; obtain ⟨q10, eq10, h⟩ := h
    replace h := ob h; obtain ⟨⟨v9, S8⟩, eS8, h⟩ := h
    refine hq_calli (ce := 0) (sl := 0) (va_runV (As := [.int ((3 : Int32) + ((2 : Int32) * i2))]) (rest := [.long j1]) ⟨hx, hb, hml, hown, hts⟩ (kFr_wordAt l D tc b t1 ((3 : Int32) + ((2 : Int32) * i2)) S3 _ _ eS8) (cwV 1 hts GV_Re_45_Fr rfl rfl rfl hd_Fr_wordAt_V ⟨Nat.le_of_ble_eq_true rfl, Nat.le_of_ble_eq_true rfl⟩) (hq_preV1 hW eq10 rfl rfl) rfl rfl hl.1 rfl (lv_room (by first | exact Nat.le_of_ble_eq_true rfl | (simp only [List.map, rf_cat]; exact Nat.le_of_ble_eq_true rfl))) dRe_readWords_22 ⟨Nat.le_of_ble_eq_true rfl, Nat.le_of_ble_eq_true rfl⟩) hW rfl rfl (fun H locs hW => ?_)
    refine lv_i2l hx hb dRe_readWords_25 (v := v9.toInt64) rfl ?_
    refine lv_bipush hx hb dRe_readWords_26 (v := (16 : Int32)) rfl ?_
    refine lv_iload hx hb dRe_readWords_28 (lv_at hl 3 rfl) ?_
    refine lv_imul hx hb dRe_readWords_30 ?_
    refine lv_lshl hx hb dRe_readWords_31 (v := v9.toInt64 <<< (((16 : Int32) * i2).toInt64 &&& 63)) rfl ?_
    refine lv_lor hx hb dRe_readWords_32 ?_
    refine lv_lstore_n (lv' := [(2, .long (j1 ||| (v9.toInt64 <<< (((16 : Int32) * i2).toInt64 &&& 63)))), (0, .ref t0), (1, .ref t1), (4, .int i2)]) hx hb dRe_readWords_33 rfl hl (Nat.le_of_ble_eq_true rfl) (by first | rfl | (simp [List.filter, rf_cat] <;> rfl)) (fun ls hl => ?_)
    refine lv_iinc (k := 3) (v := i2 + 1) (lv' := [(4, .int (i2 + 1)), (2, .long (j1 ||| (v9.toInt64 <<< (((16 : Int32) * i2).toInt64 &&& 63)))), (0, .ref t0), (1, .ref t1)]) hx hb dRe_readWords_34 hl rfl rfl (Nat.le_of_ble_eq_true rfl) (by first | rfl | (simp [List.filter, rf_cat] <;> rfl)) (fun ls hl => ?_)
    refine lv_goto hx hb dRe_readWords_37 (tgt := 5) rfl ?_
    exact hin _ (Option.some.inj h).symm _ _ _ (lv_sub hl [2, 3, 1, 0] rfl) hW
def fRe_read (t0 : Nat) (t1 : Nat) (S : Ws) : Option (Int64 × Ws) :=
  (gI S t0 [4] 2).bind fun v1 => if v1 = 1 ∨ v1 = 2 then (gO S t0 [4]).bind fun q5 => (fRe_readBits t0 t1 S).bind fun (u4, S3) => some (u4, S3) else if v1 = 3 ∨ v1 = 4 then (gO S t0 [4]).bind fun q10 => (fRe_readWords t0 t1 S).bind fun (u9, S8) => some (u9, S8) else if v1 = 22 then (gO S t1 [0]).bind fun q15 => (fFr_wordAt t1 (4 : Int32) S).bind fun (v14, S13) => (gO S13 t1 [0]).bind fun q18 => (fFr_wordAt t1 (6 : Int32) S13).bind fun (v17, S16) => some (v14.toInt64 ||| (v17.toInt64 <<< ((16 : Int32).toInt64 &&& 63)), S16) else (gO S t1 [0]).bind fun q21 => (fFr_wordAt t1 (4 : Int32) S).bind fun (v20, S19) => some (v20.toInt64, S19)
set_option maxRecDepth 100000 in
set_option maxHeartbeats 4000000 in
theorem kRe_read (l : Launch) (D : va_G) (tc : Nat → ClassId) (b : Nat) (t0 : Nat) (t1 : Nat) (S Sz : Ws) (rr : Int64) (h : fRe_read t0 t1 S = some (rr, Sz)) : Met l yRe_read wsRe_read { frames := 3, cells := 0, slots := 0, locals := 120 } (va_Pc [.ref t0, .ref t1] (Wp D vwCl (hTy tc) b S)) (va_Ql (fun x (_ : Unit) => x = rr) (fun _ => Wp D vwCl (hTy tc) b Sz) (fun q => b ≤ q)) 0 0 (fun q => b ≤ q) := by
  refine hq_ofW (cc := cRe_read) (maxL := 2) (ret := (some .long)) (by decide) rfl (Nat.le_of_ble_eq_true rfl) fun p e s m args below meth c hx hb hr hts hown hlocks hnm hml H locs ls hl hW => ?_
  have hts : ∀ w ∈ lwG, w.before args s = true := fun w h => hts w (List.mem_cons_of_mem _ h)
  have hown : s.vm.findClass "SerialPlant$Request" = some m.cls := hown
  have hl : lv_has ls 2 [(0, .ref t0), (1, .ref t1)] := hl
  unfold fRe_read at h
  refine lv_aload_n hx hb dRe_read_0 rfl (lv_at hl 0 rfl) ?_
  replace h := ob h; obtain ⟨v1, ev1, h⟩ := h
  refine hq_get hx hb hts hown hW (gI_V ev1) (F_Re_36 hts) dRe_read_1 ?_
  by_cases hc2 : v1 = 1 ∨ v1 = 2
  · replace h := if_t hc2 h
    have hT6 : W p l e { frames := 3, cells := 0, slots := 0, locals := 120 } s m args below meth c H locs 0 0 (MQ below (va_Ql (fun x (_ : Unit) => x = rr) (fun _ => Wp D vwCl (hTy tc) b Sz) (fun q => b ≤ q)) args s 0 0 (fun q => b ≤ q)) (F0 m 56 ls []) := by
      refine lv_aload_n hx hb dRe_read_56 rfl (lv_at hl 0 rfl) ?_
      refine lv_aload_n hx hb dRe_read_57 rfl (lv_at hl 1 rfl) ?_
      replace h := ob h; obtain ⟨q5, eq5, h⟩ := h
      replace h := ob h; obtain ⟨⟨u4, S3⟩, eS3, h⟩ := h
      refine hq_calll (ce := 0) (sl := 0) (va_runV (As := [.ref t1]) (rest := []) ⟨hx, hb, hml, hown, hts⟩ (kRe_readBits l D tc b t0 t1 S _ _ eS3) (cwV 1 hts GV_Re_39_Re rfl rfl rfl hd_Re_readBits_V ⟨Nat.le_of_ble_eq_true rfl, Nat.le_of_ble_eq_true rfl⟩) (hq_preV1 hW eq5 rfl rfl) rfl rfl hl.1 rfl (lv_room (by first | exact Nat.le_of_ble_eq_true rfl | (simp only [List.map, rf_cat]; exact Nat.le_of_ble_eq_true rfl))) dRe_read_58 ⟨Nat.le_of_ble_eq_true rfl, Nat.le_of_ble_eq_true rfl⟩) hW rfl rfl (fun H locs hW => ?_)
      exact hq_lret hx hb hr hlocks h (Nat.le_of_ble_eq_true rfl) (Nat.le_of_ble_eq_true rfl) hW dRe_read_61
    rcases hc2 with hc2 | hc2
    · refine lv_lookup hx hb dRe_read_4 (tgt := 56) rfl (by rw [hc2] <;> rfl) rfl ?_
      exact hT6
    · refine lv_lookup hx hb dRe_read_4 (tgt := 56) rfl (by rw [hc2] <;> rfl) rfl ?_
      exact hT6
  · replace h := if_f hc2 h
    have hc2n0 : ¬ v1 = 1 := fun q => hc2 (Or.inl q)
    have hc2n1 : ¬ v1 = 2 := fun q => hc2 (Or.inr q)
    by_cases hc7 : v1 = 3 ∨ v1 = 4
    · replace h := if_t hc7 h
      have hT11 : W p l e { frames := 3, cells := 0, slots := 0, locals := 120 } s m args below meth c H locs 0 0 (MQ below (va_Ql (fun x (_ : Unit) => x = rr) (fun _ => Wp D vwCl (hTy tc) b Sz) (fun q => b ≤ q)) args s 0 0 (fun q => b ≤ q)) (F0 m 62 ls []) := by
        refine lv_aload_n hx hb dRe_read_62 rfl (lv_at hl 0 rfl) ?_
        refine lv_aload_n hx hb dRe_read_63 rfl (lv_at hl 1 rfl) ?_
        replace h := ob h; obtain ⟨q10, eq10, h⟩ := h
        replace h := ob h; obtain ⟨⟨u9, S8⟩, eS8, h⟩ := h
        refine hq_calll (ce := 0) (sl := 0) (va_runV (As := [.ref t1]) (rest := []) ⟨hx, hb, hml, hown, hts⟩ (kRe_readWords l D tc b t0 t1 S _ _ eS8) (cwV 1 hts GV_Re_42_Re rfl rfl rfl hd_Re_readWords_V ⟨Nat.le_of_ble_eq_true rfl, Nat.le_of_ble_eq_true rfl⟩) (hq_preV1 hW eq10 rfl rfl) rfl rfl hl.1 rfl (lv_room (by first | exact Nat.le_of_ble_eq_true rfl | (simp only [List.map, rf_cat]; exact Nat.le_of_ble_eq_true rfl))) dRe_read_64 ⟨Nat.le_of_ble_eq_true rfl, Nat.le_of_ble_eq_true rfl⟩) hW rfl rfl (fun H locs hW => ?_)
        exact hq_lret hx hb hr hlocks h (Nat.le_of_ble_eq_true rfl) (Nat.le_of_ble_eq_true rfl) hW dRe_read_67
      rcases hc7 with hc7 | hc7
      · refine lv_lookup hx hb dRe_read_4 (tgt := 62) rfl (by rw [hc7] <;> rfl) rfl ?_
        exact hT11
      · refine lv_lookup hx hb dRe_read_4 (tgt := 62) rfl (by rw [hc7] <;> rfl) rfl ?_
        exact hT11
    · replace h := if_f hc7 h
      have hc7n0 : ¬ v1 = 3 := fun q => hc7 (Or.inl q)
      have hc7n1 : ¬ v1 = 4 := fun q => hc7 (Or.inr q)
      by_cases hc12 : v1 = 22
      · replace h := if_t hc12 h
        refine lv_lookup hx hb dRe_read_4 (tgt := 68) rfl (by rw [hc12] <;> rfl) rfl ?_
        refine lv_aload_n hx hb dRe_read_68 rfl (lv_at hl 1 rfl) ?_
        refine lv_iconst hx hb dRe_read_69 (v := (4 : Int32)) rfl ?_
        replace h := ob h; obtain ⟨q15, eq15, h⟩ := h
        replace h := ob h; obtain ⟨⟨v14, S13⟩, eS13, h⟩ := h
        refine hq_calli (ce := 0) (sl := 0) (va_runV (As := [.int (4 : Int32)]) (rest := []) ⟨hx, hb, hml, hown, hts⟩ (kFr_wordAt l D tc b t1 (4 : Int32) S _ _ eS13) (cwV 1 hts GV_Re_45_Fr rfl rfl rfl hd_Fr_wordAt_V ⟨Nat.le_of_ble_eq_true rfl, Nat.le_of_ble_eq_true rfl⟩) (hq_preV1 hW eq15 rfl rfl) rfl rfl hl.1 rfl (lv_room (by first | exact Nat.le_of_ble_eq_true rfl | (simp only [List.map, rf_cat]; exact Nat.le_of_ble_eq_true rfl))) dRe_read_70 ⟨Nat.le_of_ble_eq_true rfl, Nat.le_of_ble_eq_true rfl⟩) hW rfl rfl (fun H locs hW => ?_)
        refine lv_i2l hx hb dRe_read_73 (v := v14.toInt64) rfl ?_
        refine lv_aload_n hx hb dRe_read_74 rfl (lv_at hl 1 rfl) ?_
        refine lv_bipush hx hb dRe_read_75 (v := (6 : Int32)) rfl ?_
        replace h := ob h; obtain ⟨q18, eq18, h⟩ := h
        replace h := ob h; obtain ⟨⟨v17, S16⟩, eS16, h⟩ := h
        refine hq_calli (ce := 0) (sl := 0) (va_runV (As := [.int (6 : Int32)]) (rest := [.long v14.toInt64]) ⟨hx, hb, hml, hown, hts⟩ (kFr_wordAt l D tc b t1 (6 : Int32) S13 _ _ eS16) (cwV 1 hts GV_Re_45_Fr rfl rfl rfl hd_Fr_wordAt_V ⟨Nat.le_of_ble_eq_true rfl, Nat.le_of_ble_eq_true rfl⟩) (hq_preV1 hW eq18 rfl rfl) rfl rfl hl.1 rfl (lv_room (by first | exact Nat.le_of_ble_eq_true rfl | (simp only [List.map, rf_cat]; exact Nat.le_of_ble_eq_true rfl))) dRe_read_77 ⟨Nat.le_of_ble_eq_true rfl, Nat.le_of_ble_eq_true rfl⟩) hW rfl rfl (fun H locs hW => ?_)
        refine lv_i2l hx hb dRe_read_80 (v := v17.toInt64) rfl ?_
        refine lv_bipush hx hb dRe_read_81 (v := (16 : Int32)) rfl ?_
        refine lv_lshl hx hb dRe_read_83 (v := v17.toInt64 <<< ((16 : Int32).toInt64 &&& 63)) rfl ?_
        refine lv_lor hx hb dRe_read_84 ?_
        exact hq_lret hx hb hr hlocks h (Nat.le_of_ble_eq_true rfl) (Nat.le_of_ble_eq_true rfl) hW dRe_read_85
      · replace h := if_f hc12 h
        have hc12n0 := hc12
        refine lv_lookup hx hb dRe_read_4 (tgt := 86) (off := 82) rfl (by show Op.lookupswitch.offset [(1, 52), (2, 52), (3, 58), (4, 58), (22, 64)] _ _ = _; rw [lv_osw (a := 1) hc2n0 rfl, lv_osw (a := 2) hc2n1 rfl, lv_osw (a := 3) hc7n0 rfl, lv_osw (a := 4) hc7n1 rfl, lv_osw (a := 22) hc12n0 rfl]; rfl) rfl ?_
        refine lv_aload_n hx hb dRe_read_86 rfl (lv_at hl 1 rfl) ?_
        refine lv_iconst hx hb dRe_read_87 (v := (4 : Int32)) rfl ?_
        replace h := ob h; obtain ⟨q21, eq21, h⟩ := h
        replace h := ob h; obtain ⟨⟨v20, S19⟩, eS19, h⟩ := h
        refine hq_calli (ce := 0) (sl := 0) (va_runV (As := [.int (4 : Int32)]) (rest := []) ⟨hx, hb, hml, hown, hts⟩ (kFr_wordAt l D tc b t1 (4 : Int32) S _ _ eS19) (cwV 1 hts GV_Re_45_Fr rfl rfl rfl hd_Fr_wordAt_V ⟨Nat.le_of_ble_eq_true rfl, Nat.le_of_ble_eq_true rfl⟩) (hq_preV1 hW eq21 rfl rfl) rfl rfl hl.1 rfl (lv_room (by first | exact Nat.le_of_ble_eq_true rfl | (simp only [List.map, rf_cat]; exact Nat.le_of_ble_eq_true rfl))) dRe_read_88 ⟨Nat.le_of_ble_eq_true rfl, Nat.le_of_ble_eq_true rfl⟩) hW rfl rfl (fun H locs hW => ?_)
        refine lv_i2l hx hb dRe_read_91 (v := v20.toInt64) rfl ?_
        exact hq_lret hx hb hr hlocks h (Nat.le_of_ble_eq_true rfl) (Nat.le_of_ble_eq_true rfl) hW dRe_read_92
def fRe_take (t0 : Nat) (t1 : Nat) (t2 : Int32) (S : Ws) : Option (Ws) :=
  (gO S t1 [0]).bind fun q3 => (fFr_byteAt t1 (1 : Int32) S).bind fun (v2, S1) => if v2 < (128 : Int32) then (pV S1 t0 [4] 6 (.int (1 : Int32))).bind fun S4 => (gO S4 t0 [4]).bind fun q7 => (fRe_read t0 t1 S4).bind fun (u6, S5) => (pV S5 t0 [4] 8 (.long u6)).bind fun S8 => some S8 else (gO S1 t1 [0]).bind fun q11 => (fFr_byteAt t1 (2 : Int32) S1).bind fun (v10, S9) => (gO S9 t0 [4]).bind fun q13 => (fRe_refuse t0 v10 S9).bind fun S12 => some S12
set_option maxRecDepth 100000 in
set_option maxHeartbeats 4000000 in
theorem kRe_take (l : Launch) (D : va_G) (tc : Nat → ClassId) (b : Nat) (t0 : Nat) (t1 : Nat) (t2 : Int32) (S Sz : Ws) (h : fRe_take t0 t1 t2 S = some Sz) : Met l yRe_take wsRe_take { frames := 4, cells := 0, slots := 0, locals := 160 } (va_Pc [.ref t0, .ref t1, .int t2] (Wp D vwCl (hTy tc) b S)) (va_Qv (fun _ : Unit => True) (fun _ => Wp D vwCl (hTy tc) b Sz) (fun q => b ≤ q)) 0 0 (fun q => b ≤ q) := by
  refine hq_ofW (cc := cRe_take) (maxL := 3) (ret := none) (by decide) rfl (Nat.le_of_ble_eq_true rfl) fun p e s m args below meth c hx hb hr hts hown hlocks hnm hml H locs ls hl hW => ?_
  have hts : ∀ w ∈ lwG, w.before args s = true := fun w h => hts w (List.mem_cons_of_mem _ h)
  have hown : s.vm.findClass "SerialPlant$Request" = some m.cls := hown
  have hl : lv_has ls 3 [(0, .ref t0), (1, .ref t1), (2, .int t2)] := hl
  unfold fRe_take at h
  refine lv_aload_n hx hb dRe_take_0 rfl (lv_at hl 1 rfl) ?_
  refine lv_iconst hx hb dRe_take_1 (v := (1 : Int32)) rfl ?_
  replace h := ob h; obtain ⟨q3, eq3, h⟩ := h
  replace h := ob h; obtain ⟨⟨v2, S1⟩, eS1, h⟩ := h
  refine hq_calli (ce := 0) (sl := 0) (va_runV (As := [.int (1 : Int32)]) (rest := []) ⟨hx, hb, hml, hown, hts⟩ (kFr_byteAt l D tc b t1 (1 : Int32) S _ _ eS1) (cwV 1 hts GV_Re_18_Fr rfl rfl rfl hd_Fr_byteAt_V ⟨Nat.le_of_ble_eq_true rfl, Nat.le_of_ble_eq_true rfl⟩) (hq_preV1 hW eq3 rfl rfl) rfl rfl hl.1 rfl (lv_room (by first | exact Nat.le_of_ble_eq_true rfl | (simp only [List.map, rf_cat]; exact Nat.le_of_ble_eq_true rfl))) dRe_take_2 ⟨Nat.le_of_ble_eq_true rfl, Nat.le_of_ble_eq_true rfl⟩) hW rfl rfl (fun H locs hW => ?_)
  refine lv_sipush hx hb dRe_take_5 (v := (128 : Int32)) rfl ?_
  refine lv_icmp_lt hx hb dRe_take_8 (tgt := 23) rfl (fun hc14 => ?_) (fun hc14 => ?_)
  · replace h := if_t hc14 h
    refine lv_aload_n hx hb dRe_take_23 rfl (lv_at hl 0 rfl) ?_
    refine lv_iconst hx hb dRe_take_24 (v := (1 : Int32)) rfl ?_
    replace h := ob h; obtain ⟨S4, eS4, h⟩ := h
    refine hq_put hx hb hts hown hW eS4 (F_Re_9 hts) P_Re_Re_6 rfl rfl dRe_take_25 (fun H locs hW => ?_)
    refine lv_aload_n hx hb dRe_take_28 rfl (lv_at hl 0 rfl) ?_
    refine lv_aload_n hx hb dRe_take_29 rfl (lv_at hl 0 rfl) ?_
    refine lv_aload_n hx hb dRe_take_30 rfl (lv_at hl 1 rfl) ?_
    replace h := ob h; obtain ⟨q7, eq7, h⟩ := h
    replace h := ob h; obtain ⟨⟨u6, S5⟩, eS5, h⟩ := h
    refine hq_calll (ce := 0) (sl := 0) (va_runV (As := [.ref t1]) (rest := [.ref t0]) ⟨hx, hb, hml, hown, hts⟩ (kRe_read l D tc b t0 t1 S4 _ _ eS5) (cwV 1 hts GV_Re_28_Re rfl rfl rfl hd_Re_read_V ⟨Nat.le_of_ble_eq_true rfl, Nat.le_of_ble_eq_true rfl⟩) (hq_preV1 hW eq7 rfl rfl) rfl rfl hl.1 rfl (lv_room (by first | exact Nat.le_of_ble_eq_true rfl | (simp only [List.map, rf_cat]; exact Nat.le_of_ble_eq_true rfl))) dRe_take_31 ⟨Nat.le_of_ble_eq_true rfl, Nat.le_of_ble_eq_true rfl⟩) hW rfl rfl (fun H locs hW => ?_)
    replace h := ob h; obtain ⟨S8, eS8, h⟩ := h
    refine hq_put hx hb hts hown hW eS8 (F_Re_32 hts) P_Re_Re_8 rfl rfl dRe_take_34 (fun H locs hW => ?_)
    exact hq_vret hx hb hr hlocks h (Nat.le_of_ble_eq_true rfl) (Nat.le_of_ble_eq_true rfl) hW dRe_take_37
  · replace h := if_f hc14 h
    refine lv_aload_n hx hb dRe_take_11 rfl (lv_at hl 0 rfl) ?_
    refine lv_aload_n hx hb dRe_take_12 rfl (lv_at hl 1 rfl) ?_
    refine lv_iconst hx hb dRe_take_13 (v := (2 : Int32)) rfl ?_
    replace h := ob h; obtain ⟨q11, eq11, h⟩ := h
    replace h := ob h; obtain ⟨⟨v10, S9⟩, eS9, h⟩ := h
    refine hq_calli (ce := 0) (sl := 0) (va_runV (As := [.int (2 : Int32)]) (rest := [.ref t0]) ⟨hx, hb, hml, hown, hts⟩ (kFr_byteAt l D tc b t1 (2 : Int32) S1 _ _ eS9) (cwV 1 hts GV_Re_18_Fr rfl rfl rfl hd_Fr_byteAt_V ⟨Nat.le_of_ble_eq_true rfl, Nat.le_of_ble_eq_true rfl⟩) (hq_preV1 hW eq11 rfl rfl) rfl rfl hl.1 rfl (lv_room (by first | exact Nat.le_of_ble_eq_true rfl | (simp only [List.map, rf_cat]; exact Nat.le_of_ble_eq_true rfl))) dRe_take_14 ⟨Nat.le_of_ble_eq_true rfl, Nat.le_of_ble_eq_true rfl⟩) hW rfl rfl (fun H locs hW => ?_)
    replace h := ob h; obtain ⟨q13, eq13, h⟩ := h
    replace h := ob h; obtain ⟨S12, eS12, h⟩ := h
    refine hq_callv (ce := 0) (sl := 0) (va_runV (As := [.int v10]) (rest := []) ⟨hx, hb, hml, hown, hts⟩ (kRe_refuse l D tc b t0 v10 S9 _ eS12) (cwV 1 hts GV_Re_24_Re rfl rfl rfl hd_Re_refuse_V ⟨Nat.le_of_ble_eq_true rfl, Nat.le_of_ble_eq_true rfl⟩) (hq_preV1 hW eq13 rfl rfl) rfl rfl hl.1 rfl (lv_room (by first | exact Nat.le_of_ble_eq_true rfl | (simp only [List.map, rf_cat]; exact Nat.le_of_ble_eq_true rfl))) dRe_take_17 ⟨Nat.le_of_ble_eq_true rfl, Nat.le_of_ble_eq_true rfl⟩) hW rfl rfl (fun H locs hW => ?_)
    refine lv_goto hx hb dRe_take_20 (tgt := 37) rfl ?_
    exact hq_vret hx hb hr hlocks h (Nat.le_of_ble_eq_true rfl) (Nat.le_of_ble_eq_true rfl) hW dRe_take_37
def fJo_word (t0 : Nat) (t1 : Int32) (S : Ws) : Option (Int32 × Ws) :=
  (gL S t0 [3, 4] 5).bind fun u1 => some ((((u1.toUInt64 >>> (((16 : Int32) * (t1 &&& (3 : Int32))).toInt64.toUInt64 &&& Int64.toUInt64 63)).toInt64).toInt32) &&& (65535 : Int32), S)
set_option maxRecDepth 100000 in
set_option maxHeartbeats 4000000 in
theorem kJo_word (l : Launch) (D : va_G) (tc : Nat → ClassId) (b : Nat) (t0 : Nat) (t1 : Int32) (S Sz : Ws) (rr : Int32) (h : fJo_word t0 t1 S = some (rr, Sz)) : Met l yJo_word wsJo_word { frames := 1, cells := 0, slots := 0, locals := 40 } (va_Pc [.ref t0, .int t1] (Wp D vwCl (hTy tc) b S)) (va_Qi (fun x (_ : Unit) => x = rr) (fun _ => Wp D vwCl (hTy tc) b Sz) (fun q => b ≤ q)) 0 0 (fun q => b ≤ q) := by
  refine hq_ofW (cc := cJo_word) (maxL := 2) (ret := (some .int)) (by decide) rfl (Nat.le_of_ble_eq_true rfl) fun p e s m args below meth c hx hb hr hts hown hlocks hnm hml H locs ls hl hW => ?_
  have hts : ∀ w ∈ lwG, w.before args s = true := fun w h => hts w (List.mem_cons_of_mem _ h)
  have hown : s.vm.findClass "SerialPlant$Job" = some m.cls := hown
  have hl : lv_has ls 2 [(0, .ref t0), (1, .int t1)] := hl
  unfold fJo_word at h
  refine lv_aload_n hx hb dJo_word_0 rfl (lv_at hl 0 rfl) ?_
  replace h := ob h; obtain ⟨u1, eu1, h⟩ := h
  refine hq_get hx hb hts hown hW (gL_V eu1) (F_Jo_27 hts) dJo_word_1 ?_
  refine lv_bipush hx hb dJo_word_4 (v := (16 : Int32)) rfl ?_
  refine lv_iload_n hx hb dJo_word_6 rfl (lv_at hl 1 rfl) ?_
  refine lv_iconst hx hb dJo_word_7 (v := (3 : Int32)) rfl ?_
  refine lv_iand hx hb dJo_word_8 ?_
  refine lv_imul hx hb dJo_word_9 ?_
  refine lv_lushr hx hb dJo_word_10 (v := (u1.toUInt64 >>> (((16 : Int32) * (t1 &&& (3 : Int32))).toInt64.toUInt64 &&& Int64.toUInt64 63)).toInt64) rfl ?_
  refine lv_l2i hx hb dJo_word_11 (v := ((u1.toUInt64 >>> (((16 : Int32) * (t1 &&& (3 : Int32))).toInt64.toUInt64 &&& Int64.toUInt64 63)).toInt64).toInt32) rfl ?_
  refine lv_ldc hx hb (v := (65535 : Int32)) hown (hts _ w_444) dJo_word_12 ?_
  refine lv_iand hx hb dJo_word_14 ?_
  exact hq_iret hx hb hr hlocks h (Nat.le_of_ble_eq_true rfl) (Nat.le_of_ble_eq_true rfl) hW dJo_word_15
def fJo_addBits_L25 (t0 : Nat) (t1 : Nat) (u1 : Int64) (v2 : Int32) : Int32 × Ws → Option ((Int32 × Ws) ⊕ (Ws)) :=
  fun (i9, S10) => (gO S10 t0 [3, 4]).bind fun q15 => (fJo_bitBytes t0 S10).bind fun (v14, S13) => if v14 ≤ i9 then some (.inr S13) else (gO S13 t1 [0]).bind fun q18 => (fFr_addByte t1 ((((u1 &&& (((1 : Int64) <<< (v2.toInt64 &&& 63)) - (1 : Int64))).toUInt64 >>> (((8 : Int32) * i9).toInt64.toUInt64 &&& Int64.toUInt64 63)).toInt64).toInt32) S13).bind fun S17 => some (.inl (i9 + 1, S17))
def fJo_addBits (t0 : Nat) (t1 : Nat) (S : Ws) : Option (Ws) :=
  (gL S t0 [3, 4] 5).bind fun u1 => (gI S t0 [3, 4] 4).bind fun v2 => (gO S t0 [3, 4]).bind fun q5 => (fJo_bitBytes t0 S).bind fun (v4, S3) => (gO S3 t1 [0]).bind fun q8 => (fFr_addByte t1 v4 S3).bind fun S7 => (lp (fJo_addBits_L25 t0 t1 u1 v2) 1000 ((0 : Int32), S7)).bind fun S12 => some S12
set_option maxRecDepth 100000 in
set_option maxHeartbeats 4000000 in
theorem kJo_addBits (l : Launch) (D : va_G) (tc : Nat → ClassId) (b : Nat) (t0 : Nat) (t1 : Nat) (S Sz : Ws) (h : fJo_addBits t0 t1 S = some Sz) : Met l yJo_addBits wsJo_addBits { frames := 2, cells := 0, slots := 0, locals := 80 } (va_Pc [.ref t0, .ref t1] (Wp D vwCl (hTy tc) b S)) (va_Qv (fun _ : Unit => True) (fun _ => Wp D vwCl (hTy tc) b Sz) (fun q => b ≤ q)) 0 0 (fun q => b ≤ q) := by
  refine hq_ofW (cc := cJo_addBits) (maxL := 5) (ret := none) (by decide) rfl (Nat.le_of_ble_eq_true rfl) fun p e s m args below meth c hx hb hr hts hown hlocks hnm hml H locs ls hl hW => ?_
  have hts : ∀ w ∈ lwG, w.before args s = true := fun w h => hts w (List.mem_cons_of_mem _ h)
  have hown : s.vm.findClass "SerialPlant$Job" = some m.cls := hown
  have hl : lv_has ls 5 [(0, .ref t0), (1, .ref t1)] := hl
  unfold fJo_addBits at h
  refine lv_aload_n hx hb dJo_addBits_0 rfl (lv_at hl 0 rfl) ?_
  replace h := ob h; obtain ⟨u1, eu1, h⟩ := h
  refine hq_get hx hb hts hown hW (gL_V eu1) (F_Jo_27 hts) dJo_addBits_1 ?_
  refine lv_lconst hx hb dJo_addBits_4 (v := (1 : Int64)) rfl ?_
  refine lv_aload_n hx hb dJo_addBits_5 rfl (lv_at hl 0 rfl) ?_
  replace h := ob h; obtain ⟨v2, ev2, h⟩ := h
  refine hq_get hx hb hts hown hW (gI_V ev2) (F_Jo_24 hts) dJo_addBits_6 ?_
  refine lv_lshl hx hb dJo_addBits_9 (v := (1 : Int64) <<< (v2.toInt64 &&& 63)) rfl ?_
  refine lv_lconst hx hb dJo_addBits_10 (v := (1 : Int64)) rfl ?_
  refine lv_lsub hx hb dJo_addBits_11 ?_
  refine lv_land hx hb dJo_addBits_12 ?_
  refine lv_lstore_n (lv' := [(2, .long (u1 &&& (((1 : Int64) <<< (v2.toInt64 &&& 63)) - (1 : Int64)))), (0, .ref t0), (1, .ref t1)]) hx hb dJo_addBits_13 rfl hl (Nat.le_of_ble_eq_true rfl) (by first | rfl | (simp [List.filter, rf_cat] <;> rfl)) (fun ls hl => ?_)
  refine lv_aload_n hx hb dJo_addBits_14 rfl (lv_at hl 2 rfl) ?_
  refine lv_aload_n hx hb dJo_addBits_15 rfl (lv_at hl 1 rfl) ?_
  replace h := ob h; obtain ⟨q5, eq5, h⟩ := h
  replace h := ob h; obtain ⟨⟨v4, S3⟩, eS3, h⟩ := h
  have hR6 : va_Run p l e { frames := 2, cells := 0, slots := 0, locals := 80 } s m args below meth c H locs 0 0 0 0 (F0 m 16 ls [.ref t0, .ref t1]) [.ref t1] (va_Qi (fun x (_ : Unit) => x = v4) (fun _ => Wp D vwCl (hTy tc) b S3) (fun q => b ≤ q) (.ref t0 :: []).toArray) (fun q => b ≤ q) := by
    rcases mem2 (gO_some eq5).2 with hq | hq
    · exact va_runU (As := []) (rest := [.ref t1]) ⟨hx, hb, hml, hown, hts⟩ (kJo_bitBytes l D tc b t0 S _ _ eS3) (va_cwU 0 hts GU_Jo_65_Po rfl rfl rfl rfl hd_Jo_bitBytes_U ⟨Nat.le_of_ble_eq_true rfl, Nat.le_of_ble_eq_true rfl⟩) (hq_preV hW (gO_some eq5).1 (by rw [hq]; rfl) rfl) rfl rfl hl.1 rfl (lv_room (by first | exact Nat.le_of_ble_eq_true rfl | (simp only [List.map, rf_cat]; exact Nat.le_of_ble_eq_true rfl))) dJo_addBits_16 ⟨Nat.le_of_ble_eq_true rfl, Nat.le_of_ble_eq_true rfl⟩
    · exact va_runU (As := []) (rest := [.ref t1]) ⟨hx, hb, hml, hown, hts⟩ (kJo_bitBytes l D tc b t0 S _ _ eS3) (va_cwU 0 hts GU_Jo_65_Re rfl rfl rfl rfl hd_Jo_bitBytes_U ⟨Nat.le_of_ble_eq_true rfl, Nat.le_of_ble_eq_true rfl⟩) (hq_preV hW (gO_some eq5).1 (by rw [hq]; rfl) rfl) rfl rfl hl.1 rfl (lv_room (by first | exact Nat.le_of_ble_eq_true rfl | (simp only [List.map, rf_cat]; exact Nat.le_of_ble_eq_true rfl))) dJo_addBits_16 ⟨Nat.le_of_ble_eq_true rfl, Nat.le_of_ble_eq_true rfl⟩
  refine hq_calli (ce := 0) (sl := 0) (hR6) hW rfl rfl (fun H locs hW => ?_)
  replace h := ob h; obtain ⟨q8, eq8, h⟩ := h
  replace h := ob h; obtain ⟨S7, eS7, h⟩ := h
  refine hq_callv (ce := 0) (sl := 0) (va_runV (As := [.int v4]) (rest := []) ⟨hx, hb, hml, hown, hts⟩ (kFr_addByte l D tc b t1 v4 S3 _ eS7) (cwV 1 hts GV_Jo_69_Fr rfl rfl rfl hd_Fr_addByte_V ⟨Nat.le_of_ble_eq_true rfl, Nat.le_of_ble_eq_true rfl⟩) (hq_preV1 hW eq8 rfl rfl) rfl rfl hl.1 rfl (lv_room (by first | exact Nat.le_of_ble_eq_true rfl | (simp only [List.map, rf_cat]; exact Nat.le_of_ble_eq_true rfl))) dJo_addBits_19 ⟨Nat.le_of_ble_eq_true rfl, Nat.le_of_ble_eq_true rfl⟩) hW rfl rfl (fun H locs hW => ?_)
  refine lv_iconst hx hb dJo_addBits_22 (v := (0 : Int32)) rfl ?_
  refine lv_istore (lv' := [(4, .int (0 : Int32)), (2, .long (u1 &&& (((1 : Int64) <<< (v2.toInt64 &&& 63)) - (1 : Int64)))), (0, .ref t0), (1, .ref t1)]) hx hb dJo_addBits_23 hl (Nat.le_of_ble_eq_true rfl) (by first | rfl | (simp [List.filter, rf_cat] <;> rfl)) (fun ls hl => ?_)
  replace h := ob h; obtain ⟨S12, eS12, h⟩ := h
  have hX : (fun q' => ∀ (H : Heap) (locs : List Loc) (ls : Array Slot), lv_has ls 5 [] → Wd D vwCl (hTy tc) b q' s H locs → W p l e { frames := 2, cells := 0, slots := 0, locals := 80 } s m args below meth c H locs 0 0 (MQ below (va_Qv (fun _ : Unit => True) (fun _ => Wp D vwCl (hTy tc) b Sz) (fun q => b ≤ q)) args s 0 0 (fun q => b ≤ q)) (F0 m 52 ls [])) S12 := by
    intro H locs ls hl hW
    exact hq_vret hx hb hr hlocks h (Nat.le_of_ble_eq_true rfl) (Nat.le_of_ble_eq_true rfl) hW dJo_addBits_52
  refine lp_ind (P := fun q' => ∀ (H : Heap) (locs : List Loc) (ls : Array Slot), lv_has ls 5 [(0, .ref t0), (1, .ref t1), (2, .long (u1 &&& (((1 : Int64) <<< (v2.toInt64 &&& 63)) - (1 : Int64)))), (4, .int q'.1)] → Wd D vwCl (hTy tc) b q'.2 s H locs → W p l e { frames := 2, cells := 0, slots := 0, locals := 80 } s m args below meth c H locs 0 0 (MQ below (va_Qv (fun _ : Unit => True) (fun _ => Wp D vwCl (hTy tc) b Sz) (fun q => b ≤ q)) args s 0 0 (fun q => b ≤ q)) (F0 m 25 ls [])) (Q := fun q' => ∀ (H : Heap) (locs : List Loc) (ls : Array Slot), lv_has ls 5 [] → Wd D vwCl (hTy tc) b q' s H locs → W p l e { frames := 2, cells := 0, slots := 0, locals := 80 } s m args below meth c H locs 0 0 (MQ below (va_Qv (fun _ : Unit => True) (fun _ => Wp D vwCl (hTy tc) b Sz) (fun q => b ≤ q)) args s 0 0 (fun q => b ≤ q)) (F0 m 52 ls [])) (fun q' x11 h hin hex => ?_) hX _ _ eS12 _ _ _ (lv_sub hl [2, 3, 1, 0] rfl) hW
  obtain ⟨i9, S10⟩ := q'
  intro H locs ls hl hW
  unfold fJo_addBits_L25 at h
  refine lv_iload hx hb dJo_addBits_25 (lv_at hl 3 rfl) ?_
  refine lv_aload_n hx hb dJo_addBits_27 rfl (lv_at hl 0 rfl) ?_
  replace h := ob h; obtain ⟨q15, eq15, h⟩ := h
  replace h := ob h; obtain ⟨⟨v14, S13⟩, eS13, h⟩ := h
  have hR16 : va_Run p l e { frames := 2, cells := 0, slots := 0, locals := 80 } s m args below meth c H locs 0 0 0 0 (F0 m 28 ls [.ref t0, .int i9]) [.int i9] (va_Qi (fun x (_ : Unit) => x = v14) (fun _ => Wp D vwCl (hTy tc) b S13) (fun q => b ≤ q) (.ref t0 :: []).toArray) (fun q => b ≤ q) := by
    rcases mem2 (gO_some eq15).2 with hq | hq
    · exact va_runU (As := []) (rest := [.int i9]) ⟨hx, hb, hml, hown, hts⟩ (kJo_bitBytes l D tc b t0 S10 _ _ eS13) (va_cwU 0 hts GU_Jo_65_Po rfl rfl rfl rfl hd_Jo_bitBytes_U ⟨Nat.le_of_ble_eq_true rfl, Nat.le_of_ble_eq_true rfl⟩) (hq_preV hW (gO_some eq15).1 (by rw [hq]; rfl) rfl) rfl rfl hl.1 rfl (lv_room (by first | exact Nat.le_of_ble_eq_true rfl | (simp only [List.map, rf_cat]; exact Nat.le_of_ble_eq_true rfl))) dJo_addBits_28 ⟨Nat.le_of_ble_eq_true rfl, Nat.le_of_ble_eq_true rfl⟩
    · exact va_runU (As := []) (rest := [.int i9]) ⟨hx, hb, hml, hown, hts⟩ (kJo_bitBytes l D tc b t0 S10 _ _ eS13) (va_cwU 0 hts GU_Jo_65_Re rfl rfl rfl rfl hd_Jo_bitBytes_U ⟨Nat.le_of_ble_eq_true rfl, Nat.le_of_ble_eq_true rfl⟩) (hq_preV hW (gO_some eq15).1 (by rw [hq]; rfl) rfl) rfl rfl hl.1 rfl (lv_room (by first | exact Nat.le_of_ble_eq_true rfl | (simp only [List.map, rf_cat]; exact Nat.le_of_ble_eq_true rfl))) dJo_addBits_28 ⟨Nat.le_of_ble_eq_true rfl, Nat.le_of_ble_eq_true rfl⟩
  refine hq_calli (ce := 0) (sl := 0) (hR16) hW rfl rfl (fun H locs hW => ?_)
  refine lv_icmp_ge hx hb dJo_addBits_31 (tgt := 52) rfl (fun hc19 => ?_) (fun hc19 => ?_)
  · replace h := if_t hc19 h
    exact hex _ (Option.some.inj h).symm _ _ _ (lv_sub hl [] rfl) hW
  · replace h := if_f hc19 h
    refine lv_aload_n hx hb dJo_addBits_34 rfl (lv_at hl 1 rfl) ?_
    refine lv_lload_n hx hb dJo_addBits_35 rfl (lv_at hl 2 rfl) ?_
    refine lv_bipush hx hb dJo_addBits_36 (v := (8 : Int32)) rfl ?_
    refine lv_iload hx hb dJo_addBits_38 (lv_at hl 3 rfl) ?_
    refine lv_imul hx hb dJo_addBits_40 ?_
    refine lv_lushr hx hb dJo_addBits_41 (v := ((u1 &&& (((1 : Int64) <<< (v2.toInt64 &&& 63)) - (1 : Int64))).toUInt64 >>> (((8 : Int32) * i9).toInt64.toUInt64 &&& Int64.toUInt64 63)).toInt64) rfl ?_
    refine lv_l2i hx hb dJo_addBits_42 (v := (((u1 &&& (((1 : Int64) <<< (v2.toInt64 &&& 63)) - (1 : Int64))).toUInt64 >>> (((8 : Int32) * i9).toInt64.toUInt64 &&& Int64.toUInt64 63)).toInt64).toInt32) rfl ?_
    replace h := ob h; obtain ⟨q18, eq18, h⟩ := h
    replace h := ob h; obtain ⟨S17, eS17, h⟩ := h
    refine hq_callv (ce := 0) (sl := 0) (va_runV (As := [.int ((((u1 &&& (((1 : Int64) <<< (v2.toInt64 &&& 63)) - (1 : Int64))).toUInt64 >>> (((8 : Int32) * i9).toInt64.toUInt64 &&& Int64.toUInt64 63)).toInt64).toInt32)]) (rest := []) ⟨hx, hb, hml, hown, hts⟩ (kFr_addByte l D tc b t1 ((((u1 &&& (((1 : Int64) <<< (v2.toInt64 &&& 63)) - (1 : Int64))).toUInt64 >>> (((8 : Int32) * i9).toInt64.toUInt64 &&& Int64.toUInt64 63)).toInt64).toInt32) S13 _ eS17) (cwV 1 hts GV_Jo_69_Fr rfl rfl rfl hd_Fr_addByte_V ⟨Nat.le_of_ble_eq_true rfl, Nat.le_of_ble_eq_true rfl⟩) (hq_preV1 hW eq18 rfl rfl) rfl rfl hl.1 rfl (lv_room (by first | exact Nat.le_of_ble_eq_true rfl | (simp only [List.map, rf_cat]; exact Nat.le_of_ble_eq_true rfl))) dJo_addBits_43 ⟨Nat.le_of_ble_eq_true rfl, Nat.le_of_ble_eq_true rfl⟩) hW rfl rfl (fun H locs hW => ?_)
    refine lv_iinc (k := 3) (v := i9 + 1) (lv' := [(4, .int (i9 + 1)), (0, .ref t0), (1, .ref t1), (2, .long (u1 &&& (((1 : Int64) <<< (v2.toInt64 &&& 63)) - (1 : Int64))))]) hx hb dJo_addBits_46 hl rfl rfl (Nat.le_of_ble_eq_true rfl) (by first | rfl | (simp [List.filter, rf_cat] <;> rfl)) (fun ls hl => ?_)
    refine lv_goto hx hb dJo_addBits_49 (tgt := 25) rfl ?_
    exact hin _ (Option.some.inj h).symm _ _ _ (lv_sub hl [1, 2, 3, 0] rfl) hW
def fJo_addWords_L12 (t0 : Nat) (t1 : Nat) : Int32 × Ws → Option ((Int32 × Ws) ⊕ (Ws)) :=
  fun (i4, S5) => (gI S5 t0 [3, 4] 4).bind fun v8 => if v8 ≤ i4 then some (.inr S5) else (gO S5 t0 [3, 4]).bind fun q11 => (fJo_word t0 i4 S5).bind fun (v10, S9) => (gO S9 t1 [0]).bind fun q14 => (fFr_addWord t1 v10 S9).bind fun S13 => some (.inl (i4 + 1, S13))
def fJo_addWords (t0 : Nat) (t1 : Nat) (S : Ws) : Option (Ws) :=
  (gI S t0 [3, 4] 4).bind fun v1 => (gO S t1 [0]).bind fun q3 => (fFr_addByte t1 ((2 : Int32) * v1) S).bind fun S2 => (lp (fJo_addWords_L12 t0 t1) 1000 ((0 : Int32), S2)).bind fun S7 => some S7
set_option maxRecDepth 100000 in
set_option maxHeartbeats 4000000 in
theorem kJo_addWords (l : Launch) (D : va_G) (tc : Nat → ClassId) (b : Nat) (t0 : Nat) (t1 : Nat) (S Sz : Ws) (h : fJo_addWords t0 t1 S = some Sz) : Met l yJo_addWords wsJo_addWords { frames := 3, cells := 0, slots := 0, locals := 120 } (va_Pc [.ref t0, .ref t1] (Wp D vwCl (hTy tc) b S)) (va_Qv (fun _ : Unit => True) (fun _ => Wp D vwCl (hTy tc) b Sz) (fun q => b ≤ q)) 0 0 (fun q => b ≤ q) := by
  refine hq_ofW (cc := cJo_addWords) (maxL := 3) (ret := none) (by decide) rfl (Nat.le_of_ble_eq_true rfl) fun p e s m args below meth c hx hb hr hts hown hlocks hnm hml H locs ls hl hW => ?_
  have hts : ∀ w ∈ lwG, w.before args s = true := fun w h => hts w (List.mem_cons_of_mem _ h)
  have hown : s.vm.findClass "SerialPlant$Job" = some m.cls := hown
  have hl : lv_has ls 3 [(0, .ref t0), (1, .ref t1)] := hl
  unfold fJo_addWords at h
  refine lv_aload_n hx hb dJo_addWords_0 rfl (lv_at hl 1 rfl) ?_
  refine lv_iconst hx hb dJo_addWords_1 (v := (2 : Int32)) rfl ?_
  refine lv_aload_n hx hb dJo_addWords_2 rfl (lv_at hl 0 rfl) ?_
  replace h := ob h; obtain ⟨v1, ev1, h⟩ := h
  refine hq_get hx hb hts hown hW (gI_V ev1) (F_Jo_24 hts) dJo_addWords_3 ?_
  refine lv_imul hx hb dJo_addWords_6 ?_
  replace h := ob h; obtain ⟨q3, eq3, h⟩ := h
  replace h := ob h; obtain ⟨S2, eS2, h⟩ := h
  refine hq_callv (ce := 0) (sl := 0) (va_runV (As := [.int ((2 : Int32) * v1)]) (rest := []) ⟨hx, hb, hml, hown, hts⟩ (kFr_addByte l D tc b t1 ((2 : Int32) * v1) S _ eS2) (cwV 1 hts GV_Jo_69_Fr rfl rfl rfl hd_Fr_addByte_V ⟨Nat.le_of_ble_eq_true rfl, Nat.le_of_ble_eq_true rfl⟩) (hq_preV1 hW eq3 rfl rfl) rfl rfl hl.1 rfl (lv_room (by first | exact Nat.le_of_ble_eq_true rfl | (simp only [List.map, rf_cat]; exact Nat.le_of_ble_eq_true rfl))) dJo_addWords_7 ⟨Nat.le_of_ble_eq_true rfl, Nat.le_of_ble_eq_true rfl⟩) hW rfl rfl (fun H locs hW => ?_)
  refine lv_iconst hx hb dJo_addWords_10 (v := (0 : Int32)) rfl ?_
  refine lv_istore_n (lv' := [(2, .int (0 : Int32)), (0, .ref t0), (1, .ref t1)]) hx hb dJo_addWords_11 rfl hl (Nat.le_of_ble_eq_true rfl) (by first | rfl | (simp [List.filter, rf_cat] <;> rfl)) (fun ls hl => ?_)
  replace h := ob h; obtain ⟨S7, eS7, h⟩ := h
  have hX : (fun q' => ∀ (H : Heap) (locs : List Loc) (ls : Array Slot), lv_has ls 3 [] → Wd D vwCl (hTy tc) b q' s H locs → W p l e { frames := 3, cells := 0, slots := 0, locals := 120 } s m args below meth c H locs 0 0 (MQ below (va_Qv (fun _ : Unit => True) (fun _ => Wp D vwCl (hTy tc) b Sz) (fun q => b ≤ q)) args s 0 0 (fun q => b ≤ q)) (F0 m 35 ls [])) S7 := by
    intro H locs ls hl hW
    exact hq_vret hx hb hr hlocks h (Nat.le_of_ble_eq_true rfl) (Nat.le_of_ble_eq_true rfl) hW dJo_addWords_35
  refine lp_ind (P := fun q' => ∀ (H : Heap) (locs : List Loc) (ls : Array Slot), lv_has ls 3 [(0, .ref t0), (1, .ref t1), (2, .int q'.1)] → Wd D vwCl (hTy tc) b q'.2 s H locs → W p l e { frames := 3, cells := 0, slots := 0, locals := 120 } s m args below meth c H locs 0 0 (MQ below (va_Qv (fun _ : Unit => True) (fun _ => Wp D vwCl (hTy tc) b Sz) (fun q => b ≤ q)) args s 0 0 (fun q => b ≤ q)) (F0 m 12 ls [])) (Q := fun q' => ∀ (H : Heap) (locs : List Loc) (ls : Array Slot), lv_has ls 3 [] → Wd D vwCl (hTy tc) b q' s H locs → W p l e { frames := 3, cells := 0, slots := 0, locals := 120 } s m args below meth c H locs 0 0 (MQ below (va_Qv (fun _ : Unit => True) (fun _ => Wp D vwCl (hTy tc) b Sz) (fun q => b ≤ q)) args s 0 0 (fun q => b ≤ q)) (F0 m 35 ls [])) (fun q' x6 h hin hex => ?_) hX _ _ eS7 _ _ _ (lv_sub hl [1, 2, 0] rfl) hW
  obtain ⟨i4, S5⟩ := q'
  intro H locs ls hl hW
  unfold fJo_addWords_L12 at h
  refine lv_iload_n hx hb dJo_addWords_12 rfl (lv_at hl 2 rfl) ?_
  refine lv_aload_n hx hb dJo_addWords_13 rfl (lv_at hl 0 rfl) ?_
  replace h := ob h; obtain ⟨v8, ev8, h⟩ := h
  refine hq_get hx hb hts hown hW (gI_V ev8) (F_Jo_24 hts) dJo_addWords_14 ?_
  refine lv_icmp_ge hx hb dJo_addWords_17 (tgt := 35) rfl (fun hc15 => ?_) (fun hc15 => ?_)
  · replace h := if_t hc15 h
    exact hex _ (Option.some.inj h).symm _ _ _ (lv_sub hl [] rfl) hW
  · replace h := if_f hc15 h
    refine lv_aload_n hx hb dJo_addWords_20 rfl (lv_at hl 1 rfl) ?_
    refine lv_aload_n hx hb dJo_addWords_21 rfl (lv_at hl 0 rfl) ?_
    refine lv_iload_n hx hb dJo_addWords_22 rfl (lv_at hl 2 rfl) ?_
    replace h := ob h; obtain ⟨q11, eq11, h⟩ := h
    replace h := ob h; obtain ⟨⟨v10, S9⟩, eS9, h⟩ := h
    have hR12 : va_Run p l e { frames := 3, cells := 0, slots := 0, locals := 120 } s m args below meth c H locs 0 0 0 0 (F0 m 23 ls [.int i4, .ref t0, .ref t1]) [.ref t1] (va_Qi (fun x (_ : Unit) => x = v10) (fun _ => Wp D vwCl (hTy tc) b S9) (fun q => b ≤ q) (.ref t0 :: [.int i4]).toArray) (fun q => b ≤ q) := by
      rcases mem2 (gO_some eq11).2 with hq | hq
      · exact va_runU (As := [.int i4]) (rest := [.ref t1]) ⟨hx, hb, hml, hown, hts⟩ (kJo_word l D tc b t0 i4 S5 _ _ eS9) (va_cwU 1 hts GU_Jo_36_Po rfl rfl rfl rfl hd_Jo_word_U ⟨Nat.le_of_ble_eq_true rfl, Nat.le_of_ble_eq_true rfl⟩) (hq_preV hW (gO_some eq11).1 (by rw [hq]; rfl) rfl) rfl rfl hl.1 rfl (lv_room (by first | exact Nat.le_of_ble_eq_true rfl | (simp only [List.map, rf_cat]; exact Nat.le_of_ble_eq_true rfl))) dJo_addWords_23 ⟨Nat.le_of_ble_eq_true rfl, Nat.le_of_ble_eq_true rfl⟩
      · exact va_runU (As := [.int i4]) (rest := [.ref t1]) ⟨hx, hb, hml, hown, hts⟩ (kJo_word l D tc b t0 i4 S5 _ _ eS9) (va_cwU 1 hts GU_Jo_36_Re rfl rfl rfl rfl hd_Jo_word_U ⟨Nat.le_of_ble_eq_true rfl, Nat.le_of_ble_eq_true rfl⟩) (hq_preV hW (gO_some eq11).1 (by rw [hq]; rfl) rfl) rfl rfl hl.1 rfl (lv_room (by first | exact Nat.le_of_ble_eq_true rfl | (simp only [List.map, rf_cat]; exact Nat.le_of_ble_eq_true rfl))) dJo_addWords_23 ⟨Nat.le_of_ble_eq_true rfl, Nat.le_of_ble_eq_true rfl⟩
    refine hq_calli (ce := 0) (sl := 0) (hR12) hW rfl rfl (fun H locs hW => ?_)
    replace h := ob h; obtain ⟨q14, eq14, h⟩ := h
    replace h := ob h; obtain ⟨S13, eS13, h⟩ := h
    refine hq_callv (ce := 0) (sl := 0) (va_runV (As := [.int v10]) (rest := []) ⟨hx, hb, hml, hown, hts⟩ (kFr_addWord l D tc b t1 v10 S9 _ eS13) (cwV 1 hts GV_Jo_51_Fr rfl rfl rfl hd_Fr_addWord_V ⟨Nat.le_of_ble_eq_true rfl, Nat.le_of_ble_eq_true rfl⟩) (hq_preV1 hW eq14 rfl rfl) rfl rfl hl.1 rfl (lv_room (by first | exact Nat.le_of_ble_eq_true rfl | (simp only [List.map, rf_cat]; exact Nat.le_of_ble_eq_true rfl))) dJo_addWords_26 ⟨Nat.le_of_ble_eq_true rfl, Nat.le_of_ble_eq_true rfl⟩) hW rfl rfl (fun H locs hW => ?_)
    refine lv_iinc (k := 2) (v := i4 + 1) (lv' := [(2, .int (i4 + 1)), (0, .ref t0), (1, .ref t1)]) hx hb dJo_addWords_29 hl rfl rfl (Nat.le_of_ble_eq_true rfl) (by first | rfl | (simp [List.filter, rf_cat] <;> rfl)) (fun ls hl => ?_)
    refine lv_goto hx hb dJo_addWords_32 (tgt := 12) rfl ?_
    exact hin _ (Option.some.inj h).symm _ _ _ (lv_sub hl [1, 2, 0] rfl) hW
def fJo_writeTo (t0 : Nat) (t1 : Nat) (S : Ws) : Option (Ws) :=
  (gI S t0 [3, 4] 1).bind fun v1 => (gI S t0 [3, 4] 2).bind fun v2 => (gO S t1 [0]).bind fun q4 => (fFr_begin t1 v1 v2 S).bind fun S3 => (gI S3 t0 [3, 4] 2).bind fun v5 => (if v5 = 1 ∨ v5 = 2 ∨ v5 = 3 ∨ v5 = 4 then (gI S3 t0 [3, 4] 3).bind fun v9 => (gO S3 t1 [0]).bind fun q11 => (fFr_addWord t1 v9 S3).bind fun S10 => (gI S10 t0 [3, 4] 4).bind fun v12 => (gO S10 t1 [0]).bind fun q14 => (fFr_addWord t1 v12 S10).bind fun S13 => some S13 else if v5 = 5 ∨ v5 = 6 ∨ v5 = 8 then (gI S3 t0 [3, 4] 3).bind fun v17 => (gO S3 t1 [0]).bind fun q19 => (fFr_addWord t1 v17 S3).bind fun S18 => (gO S18 t0 [3, 4]).bind fun q22 => (fJo_word t0 (0 : Int32) S18).bind fun (v21, S20) => (gO S20 t1 [0]).bind fun q25 => (fFr_addWord t1 v21 S20).bind fun S24 => some S24 else if v5 = 7 ∨ v5 = 9 ∨ v5 = 10 ∨ v5 = 11 ∨ v5 = 12 ∨ v5 = 13 ∨ v5 = 14 ∨ v5 = 17 ∨ v5 = 18 ∨ v5 = 19 ∨ v5 = 20 ∨ v5 = 21 then some S3 else if v5 = 15 then (gI S3 t0 [3, 4] 3).bind fun v30 => (gO S3 t1 [0]).bind fun q32 => (fFr_addWord t1 v30 S3).bind fun S31 => (gI S31 t0 [3, 4] 4).bind fun v33 => (gO S31 t1 [0]).bind fun q35 => (fFr_addWord t1 v33 S31).bind fun S34 => (gO S34 t0 [3, 4]).bind fun q37 => (fJo_addBits t0 t1 S34).bind fun S36 => some S36 else if v5 = 16 then (gI S3 t0 [3, 4] 3).bind fun v40 => (gO S3 t1 [0]).bind fun q42 => (fFr_addWord t1 v40 S3).bind fun S41 => (gI S41 t0 [3, 4] 4).bind fun v43 => (gO S41 t1 [0]).bind fun q45 => (fFr_addWord t1 v43 S41).bind fun S44 => (gO S44 t0 [3, 4]).bind fun q47 => (fJo_addWords t0 t1 S44).bind fun S46 => some S46 else if v5 = 22 then (gI S3 t0 [3, 4] 3).bind fun v50 => (gO S3 t1 [0]).bind fun q52 => (fFr_addWord t1 v50 S3).bind fun S51 => (gO S51 t0 [3, 4]).bind fun q55 => (fJo_word t0 (0 : Int32) S51).bind fun (v54, S53) => (gO S53 t1 [0]).bind fun q58 => (fFr_addWord t1 v54 S53).bind fun S57 => (gO S57 t0 [3, 4]).bind fun q61 => (fJo_word t0 (1 : Int32) S57).bind fun (v60, S59) => (gO S59 t1 [0]).bind fun q64 => (fFr_addWord t1 v60 S59).bind fun S63 => some S63 else some S3).bind fun S6 => (gO S6 t1 [0]).bind fun q66 => (fFr_addSum t1 S6).bind fun S65 => some S65
set_option maxRecDepth 100000 in
set_option maxHeartbeats 4000000 in
theorem kJo_writeTo (l : Launch) (D : va_G) (tc : Nat → ClassId) (b : Nat) (t0 : Nat) (t1 : Nat) (S Sz : Ws) (h : fJo_writeTo t0 t1 S = some Sz) : Met l yJo_writeTo wsJo_writeTo { frames := 4, cells := 0, slots := 0, locals := 160 } (va_Pc [.ref t0, .ref t1] (Wp D vwCl (hTy tc) b S)) (va_Qv (fun _ : Unit => True) (fun _ => Wp D vwCl (hTy tc) b Sz) (fun q => b ≤ q)) 0 0 (fun q => b ≤ q) := by
  refine hq_ofW (cc := cJo_writeTo) (maxL := 2) (ret := none) (by decide) rfl (Nat.le_of_ble_eq_true rfl) fun p e s m args below meth c hx hb hr hts hown hlocks hnm hml H locs ls hl hW => ?_
  have hts : ∀ w ∈ lwG, w.before args s = true := fun w h => hts w (List.mem_cons_of_mem _ h)
  have hown : s.vm.findClass "SerialPlant$Job" = some m.cls := hown
  have hl : lv_has ls 2 [(0, .ref t0), (1, .ref t1)] := hl
  unfold fJo_writeTo at h
  refine lv_aload_n hx hb dJo_writeTo_0 rfl (lv_at hl 1 rfl) ?_
  refine lv_aload_n hx hb dJo_writeTo_1 rfl (lv_at hl 0 rfl) ?_
  replace h := ob h; obtain ⟨v1, ev1, h⟩ := h
  refine hq_get hx hb hts hown hW (gI_V ev1) (F_Jo_15 hts) dJo_writeTo_2 ?_
  refine lv_aload_n hx hb dJo_writeTo_5 rfl (lv_at hl 0 rfl) ?_
  replace h := ob h; obtain ⟨v2, ev2, h⟩ := h
  refine hq_get hx hb hts hown hW (gI_V ev2) (F_Jo_18 hts) dJo_writeTo_6 ?_
  replace h := ob h; obtain ⟨q4, eq4, h⟩ := h
  replace h := ob h; obtain ⟨S3, eS3, h⟩ := h
  refine hq_callv (ce := 0) (sl := 0) (va_runV (As := [.int v1, .int v2]) (rest := []) ⟨hx, hb, hml, hown, hts⟩ (kFr_begin l D tc b t1 v1 v2 S _ eS3) (cwV 2 hts GV_Jo_45_Fr rfl rfl rfl hd_Fr_begin_V ⟨Nat.le_of_ble_eq_true rfl, Nat.le_of_ble_eq_true rfl⟩) (hq_preV1 hW eq4 rfl rfl) rfl rfl hl.1 rfl (lv_room (by first | exact Nat.le_of_ble_eq_true rfl | (simp only [List.map, rf_cat]; exact Nat.le_of_ble_eq_true rfl))) dJo_writeTo_9 ⟨Nat.le_of_ble_eq_true rfl, Nat.le_of_ble_eq_true rfl⟩) hW rfl rfl (fun H locs hW => ?_)
  refine lv_aload_n hx hb dJo_writeTo_12 rfl (lv_at hl 0 rfl) ?_
  replace h := ob h; obtain ⟨v5, ev5, h⟩ := h
  refine hq_get hx hb hts hown hW (gI_V ev5) (F_Jo_18 hts) dJo_writeTo_13 ?_
  replace h := ob h; obtain ⟨q7, e236, h⟩ := h
  have hJ236 : ∀ q', q' = q7 → ∀ (H : Heap) (locs : List Loc) (ls : Array Slot), lv_has ls 2 [(1, .ref t1)] → Wd D vwCl (hTy tc) b q' s H locs → W p l e { frames := 4, cells := 0, slots := 0, locals := 160 } s m args below meth c H locs 0 0 (MQ below (va_Qv (fun _ : Unit => True) (fun _ => Wp D vwCl (hTy tc) b Sz) (fun q => b ≤ q)) args s 0 0 (fun q => b ≤ q)) (F0 m 236 ls []) := by
    intro S6 hq'; subst hq'
    intro H locs ls hl hW
    refine lv_aload_n hx hb dJo_writeTo_236 rfl (lv_at hl 0 rfl) ?_
    replace h := ob h; obtain ⟨q66, eq66, h⟩ := h
    replace h := ob h; obtain ⟨S65, eS65, h⟩ := h
    refine hq_callv (ce := 0) (sl := 0) (va_runV (As := []) (rest := []) ⟨hx, hb, hml, hown, hts⟩ (kFr_addSum l D tc b t1 S6 _ eS65) (cwV 0 hts GV_Jo_62_Fr rfl rfl rfl hd_Fr_addSum_V ⟨Nat.le_of_ble_eq_true rfl, Nat.le_of_ble_eq_true rfl⟩) (hq_preV1 hW eq66 rfl rfl) rfl rfl hl.1 rfl (lv_room (by first | exact Nat.le_of_ble_eq_true rfl | (simp only [List.map, rf_cat]; exact Nat.le_of_ble_eq_true rfl))) dJo_writeTo_237 ⟨Nat.le_of_ble_eq_true rfl, Nat.le_of_ble_eq_true rfl⟩) hW rfl rfl (fun H locs hW => ?_)
    exact hq_vret hx hb hr hlocks h (Nat.le_of_ble_eq_true rfl) (Nat.le_of_ble_eq_true rfl) hW dJo_writeTo_240
  clear h; have h := e236; clear e236
  by_cases hc8 : v5 = 1 ∨ v5 = 2 ∨ v5 = 3 ∨ v5 = 4
  · replace h := if_t hc8 h
    have hT15 : W p l e { frames := 4, cells := 0, slots := 0, locals := 160 } s m args below meth c H locs 0 0 (MQ below (va_Qv (fun _ : Unit => True) (fun _ => Wp D vwCl (hTy tc) b Sz) (fun q => b ≤ q)) args s 0 0 (fun q => b ≤ q)) (F0 m 120 ls []) := by
      refine lv_aload_n hx hb dJo_writeTo_120 rfl (lv_at hl 1 rfl) ?_
      refine lv_aload_n hx hb dJo_writeTo_121 rfl (lv_at hl 0 rfl) ?_
      replace h := ob h; obtain ⟨v9, ev9, h⟩ := h
      refine hq_get hx hb hts hown hW (gI_V ev9) (F_Jo_21 hts) dJo_writeTo_122 ?_
      replace h := ob h; obtain ⟨q11, eq11, h⟩ := h
      replace h := ob h; obtain ⟨S10, eS10, h⟩ := h
      refine hq_callv (ce := 0) (sl := 0) (va_runV (As := [.int v9]) (rest := []) ⟨hx, hb, hml, hown, hts⟩ (kFr_addWord l D tc b t1 v9 S3 _ eS10) (cwV 1 hts GV_Jo_51_Fr rfl rfl rfl hd_Fr_addWord_V ⟨Nat.le_of_ble_eq_true rfl, Nat.le_of_ble_eq_true rfl⟩) (hq_preV1 hW eq11 rfl rfl) rfl rfl hl.1 rfl (lv_room (by first | exact Nat.le_of_ble_eq_true rfl | (simp only [List.map, rf_cat]; exact Nat.le_of_ble_eq_true rfl))) dJo_writeTo_125 ⟨Nat.le_of_ble_eq_true rfl, Nat.le_of_ble_eq_true rfl⟩) hW rfl rfl (fun H locs hW => ?_)
      refine lv_aload_n hx hb dJo_writeTo_128 rfl (lv_at hl 1 rfl) ?_
      refine lv_aload_n hx hb dJo_writeTo_129 rfl (lv_at hl 0 rfl) ?_
      replace h := ob h; obtain ⟨v12, ev12, h⟩ := h
      refine hq_get hx hb hts hown hW (gI_V ev12) (F_Jo_24 hts) dJo_writeTo_130 ?_
      replace h := ob h; obtain ⟨q14, eq14, h⟩ := h
      replace h := ob h; obtain ⟨S13, eS13, h⟩ := h
      refine hq_callv (ce := 0) (sl := 0) (va_runV (As := [.int v12]) (rest := []) ⟨hx, hb, hml, hown, hts⟩ (kFr_addWord l D tc b t1 v12 S10 _ eS13) (cwV 1 hts GV_Jo_51_Fr rfl rfl rfl hd_Fr_addWord_V ⟨Nat.le_of_ble_eq_true rfl, Nat.le_of_ble_eq_true rfl⟩) (hq_preV1 hW eq14 rfl rfl) rfl rfl hl.1 rfl (lv_room (by first | exact Nat.le_of_ble_eq_true rfl | (simp only [List.map, rf_cat]; exact Nat.le_of_ble_eq_true rfl))) dJo_writeTo_133 ⟨Nat.le_of_ble_eq_true rfl, Nat.le_of_ble_eq_true rfl⟩) hW rfl rfl (fun H locs hW => ?_)
      refine lv_goto hx hb dJo_writeTo_136 (tgt := 236) rfl ?_
      exact hJ236 _ (Option.some.inj h) _ _ _ (lv_sub hl [1] rfl) hW
    rcases hc8 with hc8 | hc8 | hc8 | hc8
    · refine lv_tableIn hx hb dJo_writeTo_16 (tgt := 120) (by rw [hc8]; decide) (by rw [hc8]; decide) (by rw [hc8] <;> rfl) rfl ?_
      exact hT15
    · refine lv_tableIn hx hb dJo_writeTo_16 (tgt := 120) (by rw [hc8]; decide) (by rw [hc8]; decide) (by rw [hc8] <;> rfl) rfl ?_
      exact hT15
    · refine lv_tableIn hx hb dJo_writeTo_16 (tgt := 120) (by rw [hc8]; decide) (by rw [hc8]; decide) (by rw [hc8] <;> rfl) rfl ?_
      exact hT15
    · refine lv_tableIn hx hb dJo_writeTo_16 (tgt := 120) (by rw [hc8]; decide) (by rw [hc8]; decide) (by rw [hc8] <;> rfl) rfl ?_
      exact hT15
  · replace h := if_f hc8 h
    have hc8n0 : ¬ v5 = 1 := fun q => hc8 (Or.inl q)
    have hc8n1 : ¬ v5 = 2 := fun q => hc8 (Or.inr (Or.inl q))
    have hc8n2 : ¬ v5 = 3 := fun q => hc8 (Or.inr (Or.inr (Or.inl q)))
    have hc8n3 : ¬ v5 = 4 := fun q => hc8 (Or.inr (Or.inr (Or.inr q)))
    by_cases hc16 : v5 = 5 ∨ v5 = 6 ∨ v5 = 8
    · replace h := if_t hc16 h
      have hT26 : W p l e { frames := 4, cells := 0, slots := 0, locals := 160 } s m args below meth c H locs 0 0 (MQ below (va_Qv (fun _ : Unit => True) (fun _ => Wp D vwCl (hTy tc) b Sz) (fun q => b ≤ q)) args s 0 0 (fun q => b ≤ q)) (F0 m 139 ls []) := by
        refine lv_aload_n hx hb dJo_writeTo_139 rfl (lv_at hl 1 rfl) ?_
        refine lv_aload_n hx hb dJo_writeTo_140 rfl (lv_at hl 0 rfl) ?_
        replace h := ob h; obtain ⟨v17, ev17, h⟩ := h
        refine hq_get hx hb hts hown hW (gI_V ev17) (F_Jo_21 hts) dJo_writeTo_141 ?_
        replace h := ob h; obtain ⟨q19, eq19, h⟩ := h
        replace h := ob h; obtain ⟨S18, eS18, h⟩ := h
        refine hq_callv (ce := 0) (sl := 0) (va_runV (As := [.int v17]) (rest := []) ⟨hx, hb, hml, hown, hts⟩ (kFr_addWord l D tc b t1 v17 S3 _ eS18) (cwV 1 hts GV_Jo_51_Fr rfl rfl rfl hd_Fr_addWord_V ⟨Nat.le_of_ble_eq_true rfl, Nat.le_of_ble_eq_true rfl⟩) (hq_preV1 hW eq19 rfl rfl) rfl rfl hl.1 rfl (lv_room (by first | exact Nat.le_of_ble_eq_true rfl | (simp only [List.map, rf_cat]; exact Nat.le_of_ble_eq_true rfl))) dJo_writeTo_144 ⟨Nat.le_of_ble_eq_true rfl, Nat.le_of_ble_eq_true rfl⟩) hW rfl rfl (fun H locs hW => ?_)
        refine lv_aload_n hx hb dJo_writeTo_147 rfl (lv_at hl 1 rfl) ?_
        refine lv_aload_n hx hb dJo_writeTo_148 rfl (lv_at hl 0 rfl) ?_
        refine lv_iconst hx hb dJo_writeTo_149 (v := (0 : Int32)) rfl ?_
        replace h := ob h; obtain ⟨q22, eq22, h⟩ := h
        replace h := ob h; obtain ⟨⟨v21, S20⟩, eS20, h⟩ := h
        have hR23 : va_Run p l e { frames := 4, cells := 0, slots := 0, locals := 160 } s m args below meth c H locs 0 0 0 0 (F0 m 150 ls [.int (0 : Int32), .ref t0, .ref t1]) [.ref t1] (va_Qi (fun x (_ : Unit) => x = v21) (fun _ => Wp D vwCl (hTy tc) b S20) (fun q => b ≤ q) (.ref t0 :: [.int (0 : Int32)]).toArray) (fun q => b ≤ q) := by
          rcases mem2 (gO_some eq22).2 with hq | hq
          · exact va_runU (As := [.int (0 : Int32)]) (rest := [.ref t1]) ⟨hx, hb, hml, hown, hts⟩ (kJo_word l D tc b t0 (0 : Int32) S18 _ _ eS20) (va_cwU 1 hts GU_Jo_36_Po rfl rfl rfl rfl hd_Jo_word_U ⟨Nat.le_of_ble_eq_true rfl, Nat.le_of_ble_eq_true rfl⟩) (hq_preV hW (gO_some eq22).1 (by rw [hq]; rfl) rfl) rfl rfl hl.1 rfl (lv_room (by first | exact Nat.le_of_ble_eq_true rfl | (simp only [List.map, rf_cat]; exact Nat.le_of_ble_eq_true rfl))) dJo_writeTo_150 ⟨Nat.le_of_ble_eq_true rfl, Nat.le_of_ble_eq_true rfl⟩
          · exact va_runU (As := [.int (0 : Int32)]) (rest := [.ref t1]) ⟨hx, hb, hml, hown, hts⟩ (kJo_word l D tc b t0 (0 : Int32) S18 _ _ eS20) (va_cwU 1 hts GU_Jo_36_Re rfl rfl rfl rfl hd_Jo_word_U ⟨Nat.le_of_ble_eq_true rfl, Nat.le_of_ble_eq_true rfl⟩) (hq_preV hW (gO_some eq22).1 (by rw [hq]; rfl) rfl) rfl rfl hl.1 rfl (lv_room (by first | exact Nat.le_of_ble_eq_true rfl | (simp only [List.map, rf_cat]; exact Nat.le_of_ble_eq_true rfl))) dJo_writeTo_150 ⟨Nat.le_of_ble_eq_true rfl, Nat.le_of_ble_eq_true rfl⟩
        refine hq_calli (ce := 0) (sl := 0) (hR23) hW rfl rfl (fun H locs hW => ?_)
        replace h := ob h; obtain ⟨q25, eq25, h⟩ := h
        replace h := ob h; obtain ⟨S24, eS24, h⟩ := h
        refine hq_callv (ce := 0) (sl := 0) (va_runV (As := [.int v21]) (rest := []) ⟨hx, hb, hml, hown, hts⟩ (kFr_addWord l D tc b t1 v21 S20 _ eS24) (cwV 1 hts GV_Jo_51_Fr rfl rfl rfl hd_Fr_addWord_V ⟨Nat.le_of_ble_eq_true rfl, Nat.le_of_ble_eq_true rfl⟩) (hq_preV1 hW eq25 rfl rfl) rfl rfl hl.1 rfl (lv_room (by first | exact Nat.le_of_ble_eq_true rfl | (simp only [List.map, rf_cat]; exact Nat.le_of_ble_eq_true rfl))) dJo_writeTo_153 ⟨Nat.le_of_ble_eq_true rfl, Nat.le_of_ble_eq_true rfl⟩) hW rfl rfl (fun H locs hW => ?_)
        refine lv_goto hx hb dJo_writeTo_156 (tgt := 236) rfl ?_
        exact hJ236 _ (Option.some.inj h) _ _ _ (lv_sub hl [1] rfl) hW
      rcases hc16 with hc16 | hc16 | hc16
      · refine lv_tableIn hx hb dJo_writeTo_16 (tgt := 139) (by rw [hc16]; decide) (by rw [hc16]; decide) (by rw [hc16] <;> rfl) rfl ?_
        exact hT26
      · refine lv_tableIn hx hb dJo_writeTo_16 (tgt := 139) (by rw [hc16]; decide) (by rw [hc16]; decide) (by rw [hc16] <;> rfl) rfl ?_
        exact hT26
      · refine lv_tableIn hx hb dJo_writeTo_16 (tgt := 139) (by rw [hc16]; decide) (by rw [hc16]; decide) (by rw [hc16] <;> rfl) rfl ?_
        exact hT26
    · replace h := if_f hc16 h
      have hc16n0 : ¬ v5 = 5 := fun q => hc16 (Or.inl q)
      have hc16n1 : ¬ v5 = 6 := fun q => hc16 (Or.inr (Or.inl q))
      have hc16n2 : ¬ v5 = 8 := fun q => hc16 (Or.inr (Or.inr q))
      by_cases hc27 : v5 = 7 ∨ v5 = 9 ∨ v5 = 10 ∨ v5 = 11 ∨ v5 = 12 ∨ v5 = 13 ∨ v5 = 14 ∨ v5 = 17 ∨ v5 = 18 ∨ v5 = 19 ∨ v5 = 20 ∨ v5 = 21
      · replace h := if_t hc27 h
        have hT28 : W p l e { frames := 4, cells := 0, slots := 0, locals := 160 } s m args below meth c H locs 0 0 (MQ below (va_Qv (fun _ : Unit => True) (fun _ => Wp D vwCl (hTy tc) b Sz) (fun q => b ≤ q)) args s 0 0 (fun q => b ≤ q)) (F0 m 236 ls []) := by
          exact hJ236 _ (Option.some.inj h) _ _ _ (lv_sub hl [1] rfl) hW
        rcases hc27 with hc27 | hc27 | hc27 | hc27 | hc27 | hc27 | hc27 | hc27 | hc27 | hc27 | hc27 | hc27
        · refine lv_tableIn hx hb dJo_writeTo_16 (tgt := 236) (by rw [hc27]; decide) (by rw [hc27]; decide) (by rw [hc27] <;> rfl) rfl ?_
          exact hT28
        · refine lv_tableIn hx hb dJo_writeTo_16 (tgt := 236) (by rw [hc27]; decide) (by rw [hc27]; decide) (by rw [hc27] <;> rfl) rfl ?_
          exact hT28
        · refine lv_tableIn hx hb dJo_writeTo_16 (tgt := 236) (by rw [hc27]; decide) (by rw [hc27]; decide) (by rw [hc27] <;> rfl) rfl ?_
          exact hT28
        · refine lv_tableIn hx hb dJo_writeTo_16 (tgt := 236) (by rw [hc27]; decide) (by rw [hc27]; decide) (by rw [hc27] <;> rfl) rfl ?_
          exact hT28
        · refine lv_tableIn hx hb dJo_writeTo_16 (tgt := 236) (by rw [hc27]; decide) (by rw [hc27]; decide) (by rw [hc27] <;> rfl) rfl ?_
          exact hT28
        · refine lv_tableIn hx hb dJo_writeTo_16 (tgt := 236) (by rw [hc27]; decide) (by rw [hc27]; decide) (by rw [hc27] <;> rfl) rfl ?_
          exact hT28
        · refine lv_tableIn hx hb dJo_writeTo_16 (tgt := 236) (by rw [hc27]; decide) (by rw [hc27]; decide) (by rw [hc27] <;> rfl) rfl ?_
          exact hT28
        · refine lv_tableIn hx hb dJo_writeTo_16 (tgt := 236) (by rw [hc27]; decide) (by rw [hc27]; decide) (by rw [hc27] <;> rfl) rfl ?_
          exact hT28
        · refine lv_tableIn hx hb dJo_writeTo_16 (tgt := 236) (by rw [hc27]; decide) (by rw [hc27]; decide) (by rw [hc27] <;> rfl) rfl ?_
          exact hT28
        · refine lv_tableIn hx hb dJo_writeTo_16 (tgt := 236) (by rw [hc27]; decide) (by rw [hc27]; decide) (by rw [hc27] <;> rfl) rfl ?_
          exact hT28
        · refine lv_tableIn hx hb dJo_writeTo_16 (tgt := 236) (by rw [hc27]; decide) (by rw [hc27]; decide) (by rw [hc27] <;> rfl) rfl ?_
          exact hT28
        · refine lv_tableIn hx hb dJo_writeTo_16 (tgt := 236) (by rw [hc27]; decide) (by rw [hc27]; decide) (by rw [hc27] <;> rfl) rfl ?_
          exact hT28
      · replace h := if_f hc27 h
        have hc27n0 : ¬ v5 = 7 := fun q => hc27 (Or.inl q)
        have hc27n1 : ¬ v5 = 9 := fun q => hc27 (Or.inr (Or.inl q))
        have hc27n2 : ¬ v5 = 10 := fun q => hc27 (Or.inr (Or.inr (Or.inl q)))
        have hc27n3 : ¬ v5 = 11 := fun q => hc27 (Or.inr (Or.inr (Or.inr (Or.inl q))))
        have hc27n4 : ¬ v5 = 12 := fun q => hc27 (Or.inr (Or.inr (Or.inr (Or.inr (Or.inl q)))))
        have hc27n5 : ¬ v5 = 13 := fun q => hc27 (Or.inr (Or.inr (Or.inr (Or.inr (Or.inr (Or.inl q))))))
        have hc27n6 : ¬ v5 = 14 := fun q => hc27 (Or.inr (Or.inr (Or.inr (Or.inr (Or.inr (Or.inr (Or.inl q)))))))
        have hc27n7 : ¬ v5 = 17 := fun q => hc27 (Or.inr (Or.inr (Or.inr (Or.inr (Or.inr (Or.inr (Or.inr (Or.inl q))))))))
        have hc27n8 : ¬ v5 = 18 := fun q => hc27 (Or.inr (Or.inr (Or.inr (Or.inr (Or.inr (Or.inr (Or.inr (Or.inr (Or.inl q)))))))))
        have hc27n9 : ¬ v5 = 19 := fun q => hc27 (Or.inr (Or.inr (Or.inr (Or.inr (Or.inr (Or.inr (Or.inr (Or.inr (Or.inr (Or.inl q))))))))))
        have hc27n10 : ¬ v5 = 20 := fun q => hc27 (Or.inr (Or.inr (Or.inr (Or.inr (Or.inr (Or.inr (Or.inr (Or.inr (Or.inr (Or.inr (Or.inl q)))))))))))
        have hc27n11 : ¬ v5 = 21 := fun q => hc27 (Or.inr (Or.inr (Or.inr (Or.inr (Or.inr (Or.inr (Or.inr (Or.inr (Or.inr (Or.inr (Or.inr q)))))))))))
        by_cases hc29 : v5 = 15
        · replace h := if_t hc29 h
          refine lv_tableIn hx hb dJo_writeTo_16 (tgt := 188) (by rw [hc29]; decide) (by rw [hc29]; decide) (by rw [hc29] <;> rfl) rfl ?_
          refine lv_aload_n hx hb dJo_writeTo_188 rfl (lv_at hl 1 rfl) ?_
          refine lv_aload_n hx hb dJo_writeTo_189 rfl (lv_at hl 0 rfl) ?_
          replace h := ob h; obtain ⟨v30, ev30, h⟩ := h
          refine hq_get hx hb hts hown hW (gI_V ev30) (F_Jo_21 hts) dJo_writeTo_190 ?_
          replace h := ob h; obtain ⟨q32, eq32, h⟩ := h
          replace h := ob h; obtain ⟨S31, eS31, h⟩ := h
          refine hq_callv (ce := 0) (sl := 0) (va_runV (As := [.int v30]) (rest := []) ⟨hx, hb, hml, hown, hts⟩ (kFr_addWord l D tc b t1 v30 S3 _ eS31) (cwV 1 hts GV_Jo_51_Fr rfl rfl rfl hd_Fr_addWord_V ⟨Nat.le_of_ble_eq_true rfl, Nat.le_of_ble_eq_true rfl⟩) (hq_preV1 hW eq32 rfl rfl) rfl rfl hl.1 rfl (lv_room (by first | exact Nat.le_of_ble_eq_true rfl | (simp only [List.map, rf_cat]; exact Nat.le_of_ble_eq_true rfl))) dJo_writeTo_193 ⟨Nat.le_of_ble_eq_true rfl, Nat.le_of_ble_eq_true rfl⟩) hW rfl rfl (fun H locs hW => ?_)
          refine lv_aload_n hx hb dJo_writeTo_196 rfl (lv_at hl 1 rfl) ?_
          refine lv_aload_n hx hb dJo_writeTo_197 rfl (lv_at hl 0 rfl) ?_
          replace h := ob h; obtain ⟨v33, ev33, h⟩ := h
          refine hq_get hx hb hts hown hW (gI_V ev33) (F_Jo_24 hts) dJo_writeTo_198 ?_
          replace h := ob h; obtain ⟨q35, eq35, h⟩ := h
          replace h := ob h; obtain ⟨S34, eS34, h⟩ := h
          refine hq_callv (ce := 0) (sl := 0) (va_runV (As := [.int v33]) (rest := []) ⟨hx, hb, hml, hown, hts⟩ (kFr_addWord l D tc b t1 v33 S31 _ eS34) (cwV 1 hts GV_Jo_51_Fr rfl rfl rfl hd_Fr_addWord_V ⟨Nat.le_of_ble_eq_true rfl, Nat.le_of_ble_eq_true rfl⟩) (hq_preV1 hW eq35 rfl rfl) rfl rfl hl.1 rfl (lv_room (by first | exact Nat.le_of_ble_eq_true rfl | (simp only [List.map, rf_cat]; exact Nat.le_of_ble_eq_true rfl))) dJo_writeTo_201 ⟨Nat.le_of_ble_eq_true rfl, Nat.le_of_ble_eq_true rfl⟩) hW rfl rfl (fun H locs hW => ?_)
          refine lv_aload_n hx hb dJo_writeTo_204 rfl (lv_at hl 0 rfl) ?_
          refine lv_aload_n hx hb dJo_writeTo_205 rfl (lv_at hl 1 rfl) ?_
          replace h := ob h; obtain ⟨q37, eq37, h⟩ := h
          replace h := ob h; obtain ⟨S36, eS36, h⟩ := h
          have hR38 : va_Run p l e { frames := 4, cells := 0, slots := 0, locals := 160 } s m args below meth c H locs 0 0 0 0 (F0 m 206 ls [.ref t1, .ref t0]) [] (va_Qv (fun _ : Unit => True) (fun _ => Wp D vwCl (hTy tc) b S36) (fun q => b ≤ q) (.ref t0 :: [.ref t1]).toArray) (fun q => b ≤ q) := by
            rcases mem2 (gO_some eq37).2 with hq | hq
            · exact va_runU (As := [.ref t1]) (rest := []) ⟨hx, hb, hml, hown, hts⟩ (kJo_addBits l D tc b t0 t1 S34 _ eS36) (va_cwU 1 hts GU_Jo_55_Po rfl rfl rfl rfl hd_Jo_addBits_U ⟨Nat.le_of_ble_eq_true rfl, Nat.le_of_ble_eq_true rfl⟩) (hq_preV hW (gO_some eq37).1 (by rw [hq]; rfl) rfl) rfl rfl hl.1 rfl (lv_room (by first | exact Nat.le_of_ble_eq_true rfl | (simp only [List.map, rf_cat]; exact Nat.le_of_ble_eq_true rfl))) dJo_writeTo_206 ⟨Nat.le_of_ble_eq_true rfl, Nat.le_of_ble_eq_true rfl⟩
            · exact va_runU (As := [.ref t1]) (rest := []) ⟨hx, hb, hml, hown, hts⟩ (kJo_addBits l D tc b t0 t1 S34 _ eS36) (va_cwU 1 hts GU_Jo_55_Re rfl rfl rfl rfl hd_Jo_addBits_U ⟨Nat.le_of_ble_eq_true rfl, Nat.le_of_ble_eq_true rfl⟩) (hq_preV hW (gO_some eq37).1 (by rw [hq]; rfl) rfl) rfl rfl hl.1 rfl (lv_room (by first | exact Nat.le_of_ble_eq_true rfl | (simp only [List.map, rf_cat]; exact Nat.le_of_ble_eq_true rfl))) dJo_writeTo_206 ⟨Nat.le_of_ble_eq_true rfl, Nat.le_of_ble_eq_true rfl⟩
          refine hq_callv (ce := 0) (sl := 0) (hR38) hW rfl rfl (fun H locs hW => ?_)
          refine lv_goto hx hb dJo_writeTo_209 (tgt := 236) rfl ?_
          exact hJ236 _ (Option.some.inj h) _ _ _ (lv_sub hl [1] rfl) hW
        · replace h := if_f hc29 h
          have hc29n0 := hc29
          by_cases hc39 : v5 = 16
          · replace h := if_t hc39 h
            refine lv_tableIn hx hb dJo_writeTo_16 (tgt := 212) (by rw [hc39]; decide) (by rw [hc39]; decide) (by rw [hc39] <;> rfl) rfl ?_
            refine lv_aload_n hx hb dJo_writeTo_212 rfl (lv_at hl 1 rfl) ?_
            refine lv_aload_n hx hb dJo_writeTo_213 rfl (lv_at hl 0 rfl) ?_
            replace h := ob h; obtain ⟨v40, ev40, h⟩ := h
            refine hq_get hx hb hts hown hW (gI_V ev40) (F_Jo_21 hts) dJo_writeTo_214 ?_
            replace h := ob h; obtain ⟨q42, eq42, h⟩ := h
            replace h := ob h; obtain ⟨S41, eS41, h⟩ := h
            refine hq_callv (ce := 0) (sl := 0) (va_runV (As := [.int v40]) (rest := []) ⟨hx, hb, hml, hown, hts⟩ (kFr_addWord l D tc b t1 v40 S3 _ eS41) (cwV 1 hts GV_Jo_51_Fr rfl rfl rfl hd_Fr_addWord_V ⟨Nat.le_of_ble_eq_true rfl, Nat.le_of_ble_eq_true rfl⟩) (hq_preV1 hW eq42 rfl rfl) rfl rfl hl.1 rfl (lv_room (by first | exact Nat.le_of_ble_eq_true rfl | (simp only [List.map, rf_cat]; exact Nat.le_of_ble_eq_true rfl))) dJo_writeTo_217 ⟨Nat.le_of_ble_eq_true rfl, Nat.le_of_ble_eq_true rfl⟩) hW rfl rfl (fun H locs hW => ?_)
            refine lv_aload_n hx hb dJo_writeTo_220 rfl (lv_at hl 1 rfl) ?_
            refine lv_aload_n hx hb dJo_writeTo_221 rfl (lv_at hl 0 rfl) ?_
            replace h := ob h; obtain ⟨v43, ev43, h⟩ := h
            refine hq_get hx hb hts hown hW (gI_V ev43) (F_Jo_24 hts) dJo_writeTo_222 ?_
            replace h := ob h; obtain ⟨q45, eq45, h⟩ := h
            replace h := ob h; obtain ⟨S44, eS44, h⟩ := h
            refine hq_callv (ce := 0) (sl := 0) (va_runV (As := [.int v43]) (rest := []) ⟨hx, hb, hml, hown, hts⟩ (kFr_addWord l D tc b t1 v43 S41 _ eS44) (cwV 1 hts GV_Jo_51_Fr rfl rfl rfl hd_Fr_addWord_V ⟨Nat.le_of_ble_eq_true rfl, Nat.le_of_ble_eq_true rfl⟩) (hq_preV1 hW eq45 rfl rfl) rfl rfl hl.1 rfl (lv_room (by first | exact Nat.le_of_ble_eq_true rfl | (simp only [List.map, rf_cat]; exact Nat.le_of_ble_eq_true rfl))) dJo_writeTo_225 ⟨Nat.le_of_ble_eq_true rfl, Nat.le_of_ble_eq_true rfl⟩) hW rfl rfl (fun H locs hW => ?_)
            refine lv_aload_n hx hb dJo_writeTo_228 rfl (lv_at hl 0 rfl) ?_
            refine lv_aload_n hx hb dJo_writeTo_229 rfl (lv_at hl 1 rfl) ?_
            replace h := ob h; obtain ⟨q47, eq47, h⟩ := h
            replace h := ob h; obtain ⟨S46, eS46, h⟩ := h
            have hR48 : va_Run p l e { frames := 4, cells := 0, slots := 0, locals := 160 } s m args below meth c H locs 0 0 0 0 (F0 m 230 ls [.ref t1, .ref t0]) [] (va_Qv (fun _ : Unit => True) (fun _ => Wp D vwCl (hTy tc) b S46) (fun q => b ≤ q) (.ref t0 :: [.ref t1]).toArray) (fun q => b ≤ q) := by
              rcases mem2 (gO_some eq47).2 with hq | hq
              · exact va_runU (As := [.ref t1]) (rest := []) ⟨hx, hb, hml, hown, hts⟩ (kJo_addWords l D tc b t0 t1 S44 _ eS46) (va_cwU 1 hts GU_Jo_59_Po rfl rfl rfl rfl hd_Jo_addWords_U ⟨Nat.le_of_ble_eq_true rfl, Nat.le_of_ble_eq_true rfl⟩) (hq_preV hW (gO_some eq47).1 (by rw [hq]; rfl) rfl) rfl rfl hl.1 rfl (lv_room (by first | exact Nat.le_of_ble_eq_true rfl | (simp only [List.map, rf_cat]; exact Nat.le_of_ble_eq_true rfl))) dJo_writeTo_230 ⟨Nat.le_of_ble_eq_true rfl, Nat.le_of_ble_eq_true rfl⟩
              · exact va_runU (As := [.ref t1]) (rest := []) ⟨hx, hb, hml, hown, hts⟩ (kJo_addWords l D tc b t0 t1 S44 _ eS46) (va_cwU 1 hts GU_Jo_59_Re rfl rfl rfl rfl hd_Jo_addWords_U ⟨Nat.le_of_ble_eq_true rfl, Nat.le_of_ble_eq_true rfl⟩) (hq_preV hW (gO_some eq47).1 (by rw [hq]; rfl) rfl) rfl rfl hl.1 rfl (lv_room (by first | exact Nat.le_of_ble_eq_true rfl | (simp only [List.map, rf_cat]; exact Nat.le_of_ble_eq_true rfl))) dJo_writeTo_230 ⟨Nat.le_of_ble_eq_true rfl, Nat.le_of_ble_eq_true rfl⟩
            refine hq_callv (ce := 0) (sl := 0) (hR48) hW rfl rfl (fun H locs hW => ?_)
            refine lv_goto hx hb dJo_writeTo_233 (tgt := 236) rfl ?_
            exact hJ236 _ (Option.some.inj h) _ _ _ (lv_sub hl [1] rfl) hW
          · replace h := if_f hc39 h
            have hc39n0 := hc39
            by_cases hc49 : v5 = 22
            · replace h := if_t hc49 h
              refine lv_tableIn hx hb dJo_writeTo_16 (tgt := 159) (by rw [hc49]; decide) (by rw [hc49]; decide) (by rw [hc49] <;> rfl) rfl ?_
              refine lv_aload_n hx hb dJo_writeTo_159 rfl (lv_at hl 1 rfl) ?_
              refine lv_aload_n hx hb dJo_writeTo_160 rfl (lv_at hl 0 rfl) ?_
              replace h := ob h; obtain ⟨v50, ev50, h⟩ := h
              refine hq_get hx hb hts hown hW (gI_V ev50) (F_Jo_21 hts) dJo_writeTo_161 ?_
              replace h := ob h; obtain ⟨q52, eq52, h⟩ := h
              replace h := ob h; obtain ⟨S51, eS51, h⟩ := h
              refine hq_callv (ce := 0) (sl := 0) (va_runV (As := [.int v50]) (rest := []) ⟨hx, hb, hml, hown, hts⟩ (kFr_addWord l D tc b t1 v50 S3 _ eS51) (cwV 1 hts GV_Jo_51_Fr rfl rfl rfl hd_Fr_addWord_V ⟨Nat.le_of_ble_eq_true rfl, Nat.le_of_ble_eq_true rfl⟩) (hq_preV1 hW eq52 rfl rfl) rfl rfl hl.1 rfl (lv_room (by first | exact Nat.le_of_ble_eq_true rfl | (simp only [List.map, rf_cat]; exact Nat.le_of_ble_eq_true rfl))) dJo_writeTo_164 ⟨Nat.le_of_ble_eq_true rfl, Nat.le_of_ble_eq_true rfl⟩) hW rfl rfl (fun H locs hW => ?_)
              refine lv_aload_n hx hb dJo_writeTo_167 rfl (lv_at hl 1 rfl) ?_
              refine lv_aload_n hx hb dJo_writeTo_168 rfl (lv_at hl 0 rfl) ?_
              refine lv_iconst hx hb dJo_writeTo_169 (v := (0 : Int32)) rfl ?_
              replace h := ob h; obtain ⟨q55, eq55, h⟩ := h
              replace h := ob h; obtain ⟨⟨v54, S53⟩, eS53, h⟩ := h
              have hR56 : va_Run p l e { frames := 4, cells := 0, slots := 0, locals := 160 } s m args below meth c H locs 0 0 0 0 (F0 m 170 ls [.int (0 : Int32), .ref t0, .ref t1]) [.ref t1] (va_Qi (fun x (_ : Unit) => x = v54) (fun _ => Wp D vwCl (hTy tc) b S53) (fun q => b ≤ q) (.ref t0 :: [.int (0 : Int32)]).toArray) (fun q => b ≤ q) := by
                rcases mem2 (gO_some eq55).2 with hq | hq
                · exact va_runU (As := [.int (0 : Int32)]) (rest := [.ref t1]) ⟨hx, hb, hml, hown, hts⟩ (kJo_word l D tc b t0 (0 : Int32) S51 _ _ eS53) (va_cwU 1 hts GU_Jo_36_Po rfl rfl rfl rfl hd_Jo_word_U ⟨Nat.le_of_ble_eq_true rfl, Nat.le_of_ble_eq_true rfl⟩) (hq_preV hW (gO_some eq55).1 (by rw [hq]; rfl) rfl) rfl rfl hl.1 rfl (lv_room (by first | exact Nat.le_of_ble_eq_true rfl | (simp only [List.map, rf_cat]; exact Nat.le_of_ble_eq_true rfl))) dJo_writeTo_170 ⟨Nat.le_of_ble_eq_true rfl, Nat.le_of_ble_eq_true rfl⟩
                · exact va_runU (As := [.int (0 : Int32)]) (rest := [.ref t1]) ⟨hx, hb, hml, hown, hts⟩ (kJo_word l D tc b t0 (0 : Int32) S51 _ _ eS53) (va_cwU 1 hts GU_Jo_36_Re rfl rfl rfl rfl hd_Jo_word_U ⟨Nat.le_of_ble_eq_true rfl, Nat.le_of_ble_eq_true rfl⟩) (hq_preV hW (gO_some eq55).1 (by rw [hq]; rfl) rfl) rfl rfl hl.1 rfl (lv_room (by first | exact Nat.le_of_ble_eq_true rfl | (simp only [List.map, rf_cat]; exact Nat.le_of_ble_eq_true rfl))) dJo_writeTo_170 ⟨Nat.le_of_ble_eq_true rfl, Nat.le_of_ble_eq_true rfl⟩
              refine hq_calli (ce := 0) (sl := 0) (hR56) hW rfl rfl (fun H locs hW => ?_)
              replace h := ob h; obtain ⟨q58, eq58, h⟩ := h
              replace h := ob h; obtain ⟨S57, eS57, h⟩ := h
              refine hq_callv (ce := 0) (sl := 0) (va_runV (As := [.int v54]) (rest := []) ⟨hx, hb, hml, hown, hts⟩ (kFr_addWord l D tc b t1 v54 S53 _ eS57) (cwV 1 hts GV_Jo_51_Fr rfl rfl rfl hd_Fr_addWord_V ⟨Nat.le_of_ble_eq_true rfl, Nat.le_of_ble_eq_true rfl⟩) (hq_preV1 hW eq58 rfl rfl) rfl rfl hl.1 rfl (lv_room (by first | exact Nat.le_of_ble_eq_true rfl | (simp only [List.map, rf_cat]; exact Nat.le_of_ble_eq_true rfl))) dJo_writeTo_173 ⟨Nat.le_of_ble_eq_true rfl, Nat.le_of_ble_eq_true rfl⟩) hW rfl rfl (fun H locs hW => ?_)
              refine lv_aload_n hx hb dJo_writeTo_176 rfl (lv_at hl 1 rfl) ?_
              refine lv_aload_n hx hb dJo_writeTo_177 rfl (lv_at hl 0 rfl) ?_
              refine lv_iconst hx hb dJo_writeTo_178 (v := (1 : Int32)) rfl ?_
              replace h := ob h; obtain ⟨q61, eq61, h⟩ := h
              replace h := ob h; obtain ⟨⟨v60, S59⟩, eS59, h⟩ := h
              have hR62 : va_Run p l e { frames := 4, cells := 0, slots := 0, locals := 160 } s m args below meth c H locs 0 0 0 0 (F0 m 179 ls [.int (1 : Int32), .ref t0, .ref t1]) [.ref t1] (va_Qi (fun x (_ : Unit) => x = v60) (fun _ => Wp D vwCl (hTy tc) b S59) (fun q => b ≤ q) (.ref t0 :: [.int (1 : Int32)]).toArray) (fun q => b ≤ q) := by
                rcases mem2 (gO_some eq61).2 with hq | hq
                · exact va_runU (As := [.int (1 : Int32)]) (rest := [.ref t1]) ⟨hx, hb, hml, hown, hts⟩ (kJo_word l D tc b t0 (1 : Int32) S57 _ _ eS59) (va_cwU 1 hts GU_Jo_36_Po rfl rfl rfl rfl hd_Jo_word_U ⟨Nat.le_of_ble_eq_true rfl, Nat.le_of_ble_eq_true rfl⟩) (hq_preV hW (gO_some eq61).1 (by rw [hq]; rfl) rfl) rfl rfl hl.1 rfl (lv_room (by first | exact Nat.le_of_ble_eq_true rfl | (simp only [List.map, rf_cat]; exact Nat.le_of_ble_eq_true rfl))) dJo_writeTo_179 ⟨Nat.le_of_ble_eq_true rfl, Nat.le_of_ble_eq_true rfl⟩
                · exact va_runU (As := [.int (1 : Int32)]) (rest := [.ref t1]) ⟨hx, hb, hml, hown, hts⟩ (kJo_word l D tc b t0 (1 : Int32) S57 _ _ eS59) (va_cwU 1 hts GU_Jo_36_Re rfl rfl rfl rfl hd_Jo_word_U ⟨Nat.le_of_ble_eq_true rfl, Nat.le_of_ble_eq_true rfl⟩) (hq_preV hW (gO_some eq61).1 (by rw [hq]; rfl) rfl) rfl rfl hl.1 rfl (lv_room (by first | exact Nat.le_of_ble_eq_true rfl | (simp only [List.map, rf_cat]; exact Nat.le_of_ble_eq_true rfl))) dJo_writeTo_179 ⟨Nat.le_of_ble_eq_true rfl, Nat.le_of_ble_eq_true rfl⟩
              refine hq_calli (ce := 0) (sl := 0) (hR62) hW rfl rfl (fun H locs hW => ?_)
              replace h := ob h; obtain ⟨q64, eq64, h⟩ := h
              replace h := ob h; obtain ⟨S63, eS63, h⟩ := h
              refine hq_callv (ce := 0) (sl := 0) (va_runV (As := [.int v60]) (rest := []) ⟨hx, hb, hml, hown, hts⟩ (kFr_addWord l D tc b t1 v60 S59 _ eS63) (cwV 1 hts GV_Jo_51_Fr rfl rfl rfl hd_Fr_addWord_V ⟨Nat.le_of_ble_eq_true rfl, Nat.le_of_ble_eq_true rfl⟩) (hq_preV1 hW eq64 rfl rfl) rfl rfl hl.1 rfl (lv_room (by first | exact Nat.le_of_ble_eq_true rfl | (simp only [List.map, rf_cat]; exact Nat.le_of_ble_eq_true rfl))) dJo_writeTo_182 ⟨Nat.le_of_ble_eq_true rfl, Nat.le_of_ble_eq_true rfl⟩) hW rfl rfl (fun H locs hW => ?_)
              refine lv_goto hx hb dJo_writeTo_185 (tgt := 236) rfl ?_
              exact hJ236 _ (Option.some.inj h) _ _ _ (lv_sub hl [1] rfl) hW
            · replace h := if_f hc49 h
              have hc49n0 := hc49
              refine lv_tableOut hx hb dJo_writeTo_16 (tgt := 236) (by have g0 := lv_neT hc8n0 (a := 1) rfl; have g1 := lv_neT hc8n1 (a := 2) rfl; have g2 := lv_neT hc8n2 (a := 3) rfl; have g3 := lv_neT hc8n3 (a := 4) rfl; have g4 := lv_neT hc16n0 (a := 5) rfl; have g5 := lv_neT hc16n1 (a := 6) rfl; have g6 := lv_neT hc27n0 (a := 7) rfl; have g7 := lv_neT hc16n2 (a := 8) rfl; have g8 := lv_neT hc27n1 (a := 9) rfl; have g9 := lv_neT hc27n2 (a := 10) rfl; have g10 := lv_neT hc27n3 (a := 11) rfl; have g11 := lv_neT hc27n4 (a := 12) rfl; have g12 := lv_neT hc27n5 (a := 13) rfl; have g13 := lv_neT hc27n6 (a := 14) rfl; have g14 := lv_neT hc29n0 (a := 15) rfl; have g15 := lv_neT hc39n0 (a := 16) rfl; have g16 := lv_neT hc27n7 (a := 17) rfl; have g17 := lv_neT hc27n8 (a := 18) rfl; have g18 := lv_neT hc27n9 (a := 19) rfl; have g19 := lv_neT hc27n10 (a := 20) rfl; have g20 := lv_neT hc27n11 (a := 21) rfl; have g21 := lv_neT hc49n0 (a := 22) rfl; omega) rfl ?_
              exact hJ236 _ (Option.some.inj h) _ _ _ (lv_sub hl [1] rfl) hW
def fJo_spanRefusal (t0 : Nat) (t1 : Int32) (t2 : Int32) (S : Ws) : Option (Int32 × Ws) :=
  (gI S t0 [3, 4] 4).bind fun v1 => if v1 < (1 : Int32) then some ((3 : Int32), S) else (gI S t0 [3, 4] 4).bind fun v2 => if v2 ≤ t1 then (gI S t0 [3, 4] 3).bind fun v3 => (gI S t0 [3, 4] 4).bind fun v4 => if t2 < (v3 + v4) then some ((2 : Int32), S) else some ((0 : Int32), S) else some ((3 : Int32), S)
set_option maxRecDepth 100000 in
set_option maxHeartbeats 4000000 in
theorem kJo_spanRefusal (l : Launch) (D : va_G) (tc : Nat → ClassId) (b : Nat) (t0 : Nat) (t1 : Int32) (t2 : Int32) (S Sz : Ws) (rr : Int32) (h : fJo_spanRefusal t0 t1 t2 S = some (rr, Sz)) : Met l yJo_spanRefusal wsJo_spanRefusal { frames := 1, cells := 0, slots := 0, locals := 40 } (va_Pc [.ref t0, .int t1, .int t2] (Wp D vwCl (hTy tc) b S)) (va_Qi (fun x (_ : Unit) => x = rr) (fun _ => Wp D vwCl (hTy tc) b Sz) (fun q => b ≤ q)) 0 0 (fun q => b ≤ q) := by
  refine hq_ofW (cc := cJo_spanRefusal) (maxL := 3) (ret := (some .int)) (by decide) rfl (Nat.le_of_ble_eq_true rfl) fun p e s m args below meth c hx hb hr hts hown hlocks hnm hml H locs ls hl hW => ?_
  have hts : ∀ w ∈ lwG, w.before args s = true := fun w h => hts w (List.mem_cons_of_mem _ h)
  have hown : s.vm.findClass "SerialPlant$Job" = some m.cls := hown
  have hl : lv_has ls 3 [(0, .ref t0), (1, .int t1), (2, .int t2)] := hl
  unfold fJo_spanRefusal at h
  refine lv_aload_n hx hb dJo_spanRefusal_0 rfl (lv_at hl 0 rfl) ?_
  replace h := ob h; obtain ⟨v1, ev1, h⟩ := h
  refine hq_get hx hb hts hown hW (gI_V ev1) (F_Jo_24 hts) dJo_spanRefusal_1 ?_
  refine lv_iconst hx hb dJo_spanRefusal_4 (v := (1 : Int32)) rfl ?_
  refine lv_icmp_lt hx hb dJo_spanRefusal_5 (tgt := 16) rfl (fun hc7 => ?_) (fun hc7 => ?_)
  · replace h := if_t hc7 h
    refine lv_iconst hx hb dJo_spanRefusal_16 (v := (3 : Int32)) rfl ?_
    exact hq_iret hx hb hr hlocks h (Nat.le_of_ble_eq_true rfl) (Nat.le_of_ble_eq_true rfl) hW dJo_spanRefusal_17
  · replace h := if_f hc7 h
    refine lv_aload_n hx hb dJo_spanRefusal_8 rfl (lv_at hl 0 rfl) ?_
    replace h := ob h; obtain ⟨v2, ev2, h⟩ := h
    refine hq_get hx hb hts hown hW (gI_V ev2) (F_Jo_24 hts) dJo_spanRefusal_9 ?_
    refine lv_iload_n hx hb dJo_spanRefusal_12 rfl (lv_at hl 1 rfl) ?_
    refine lv_icmp_le hx hb dJo_spanRefusal_13 (tgt := 18) rfl (fun hc6 => ?_) (fun hc6 => ?_)
    · replace h := if_t hc6 h
      refine lv_aload_n hx hb dJo_spanRefusal_18 rfl (lv_at hl 0 rfl) ?_
      replace h := ob h; obtain ⟨v3, ev3, h⟩ := h
      refine hq_get hx hb hts hown hW (gI_V ev3) (F_Jo_21 hts) dJo_spanRefusal_19 ?_
      refine lv_aload_n hx hb dJo_spanRefusal_22 rfl (lv_at hl 0 rfl) ?_
      replace h := ob h; obtain ⟨v4, ev4, h⟩ := h
      refine hq_get hx hb hts hown hW (gI_V ev4) (F_Jo_24 hts) dJo_spanRefusal_23 ?_
      refine lv_iadd hx hb dJo_spanRefusal_26 ?_
      refine lv_iload_n hx hb dJo_spanRefusal_27 rfl (lv_at hl 2 rfl) ?_
      refine lv_icmp_gt hx hb dJo_spanRefusal_28 (tgt := 35) rfl (fun hc5 => ?_) (fun hc5 => ?_)
      · replace h := if_t hc5 h
        refine lv_iconst hx hb dJo_spanRefusal_35 (v := (2 : Int32)) rfl ?_
        exact hq_iret hx hb hr hlocks h (Nat.le_of_ble_eq_true rfl) (Nat.le_of_ble_eq_true rfl) hW dJo_spanRefusal_36
      · replace h := if_f hc5 h
        refine lv_iconst hx hb dJo_spanRefusal_31 (v := (0 : Int32)) rfl ?_
        refine lv_goto hx hb dJo_spanRefusal_32 (tgt := 36) rfl ?_
        exact hq_iret hx hb hr hlocks h (Nat.le_of_ble_eq_true rfl) (Nat.le_of_ble_eq_true rfl) hW dJo_spanRefusal_36
    · replace h := if_f hc6 h
      refine lv_iconst hx hb dJo_spanRefusal_16 (v := (3 : Int32)) rfl ?_
      exact hq_iret hx hb hr hlocks h (Nat.le_of_ble_eq_true rfl) (Nat.le_of_ble_eq_true rfl) hW dJo_spanRefusal_17
def fJo_isKnownKind (t0 : Nat) (S : Ws) : Option (Int32 × Ws) :=
  (gI S t0 [3, 4] 3).bind fun v1 => if v1 = 0 then (bz (1 : Int32)).bind fun z2 => some ((1 : Int32), S) else (gI S t0 [3, 4] 3).bind fun v3 => if v3 = (1 : Int32) then (bz (1 : Int32)).bind fun z4 => some ((1 : Int32), S) else (gI S t0 [3, 4] 3).bind fun v5 => if v5 = (4 : Int32) then (bz (1 : Int32)).bind fun z7 => some ((1 : Int32), S) else (bz (0 : Int32)).bind fun z6 => some ((0 : Int32), S)
set_option maxRecDepth 100000 in
set_option maxHeartbeats 4000000 in
theorem kJo_isKnownKind (l : Launch) (D : va_G) (tc : Nat → ClassId) (b : Nat) (t0 : Nat) (S Sz : Ws) (rr : Int32) (h : fJo_isKnownKind t0 S = some (rr, Sz)) : Met l yJo_isKnownKind wsJo_isKnownKind { frames := 1, cells := 0, slots := 0, locals := 40 } (va_Pc [.ref t0] (Wp D vwCl (hTy tc) b S)) (va_Qi (fun x (_ : Unit) => x = rr) (fun _ => Wp D vwCl (hTy tc) b Sz) (fun q => b ≤ q)) 0 0 (fun q => b ≤ q) := by
  refine hq_ofW (cc := cJo_isKnownKind) (maxL := 1) (ret := (some .boolean)) (by decide) rfl (Nat.le_of_ble_eq_true rfl) fun p e s m args below meth c hx hb hr hts hown hlocks hnm hml H locs ls hl hW => ?_
  have hts : ∀ w ∈ lwG, w.before args s = true := fun w h => hts w (List.mem_cons_of_mem _ h)
  have hown : s.vm.findClass "SerialPlant$Job" = some m.cls := hown
  have hl : lv_has ls 1 [(0, .ref t0)] := hl
  unfold fJo_isKnownKind at h
  refine lv_aload_n hx hb dJo_isKnownKind_0 rfl (lv_at hl 0 rfl) ?_
  replace h := ob h; obtain ⟨v1, ev1, h⟩ := h
  refine hq_get hx hb hts hown hW (gI_V ev1) (F_Jo_21 hts) dJo_isKnownKind_1 ?_
  refine lv_if_eq hx hb dJo_isKnownKind_4 (tgt := 23) rfl (fun hc10 => ?_) (fun hc10 => ?_)
  · replace h := if_t hc10 h
    refine lv_iconst hx hb dJo_isKnownKind_23 (v := (1 : Int32)) rfl ?_
    refine lv_goto hx hb dJo_isKnownKind_24 (tgt := 28) rfl ?_
    replace h := ob h; obtain ⟨z2, ez2, h⟩ := h
    exact hq_zret hx hb hr hlocks (bz_some ez2).2 h (Nat.le_of_ble_eq_true rfl) (Nat.le_of_ble_eq_true rfl) hW dJo_isKnownKind_28
  · replace h := if_f hc10 h
    refine lv_aload_n hx hb dJo_isKnownKind_7 rfl (lv_at hl 0 rfl) ?_
    replace h := ob h; obtain ⟨v3, ev3, h⟩ := h
    refine hq_get hx hb hts hown hW (gI_V ev3) (F_Jo_21 hts) dJo_isKnownKind_8 ?_
    refine lv_iconst hx hb dJo_isKnownKind_11 (v := (1 : Int32)) rfl ?_
    refine lv_icmp_eq hx hb dJo_isKnownKind_12 (tgt := 23) rfl (fun hc9 => ?_) (fun hc9 => ?_)
    · replace h := if_t hc9 h
      refine lv_iconst hx hb dJo_isKnownKind_23 (v := (1 : Int32)) rfl ?_
      refine lv_goto hx hb dJo_isKnownKind_24 (tgt := 28) rfl ?_
      replace h := ob h; obtain ⟨z4, ez4, h⟩ := h
      exact hq_zret hx hb hr hlocks (bz_some ez4).2 h (Nat.le_of_ble_eq_true rfl) (Nat.le_of_ble_eq_true rfl) hW dJo_isKnownKind_28
    · replace h := if_f hc9 h
      refine lv_aload_n hx hb dJo_isKnownKind_15 rfl (lv_at hl 0 rfl) ?_
      replace h := ob h; obtain ⟨v5, ev5, h⟩ := h
      refine hq_get hx hb hts hown hW (gI_V ev5) (F_Jo_21 hts) dJo_isKnownKind_16 ?_
      refine lv_iconst hx hb dJo_isKnownKind_19 (v := (4 : Int32)) rfl ?_
      refine lv_icmp_ne hx hb dJo_isKnownKind_20 (tgt := 27) rfl (fun hc8 => ?_) (fun hc8 => ?_)
      · replace h := if_f hc8 h
        refine lv_iconst hx hb dJo_isKnownKind_27 (v := (0 : Int32)) rfl ?_
        replace h := ob h; obtain ⟨z6, ez6, h⟩ := h
        exact hq_zret hx hb hr hlocks (bz_some ez6).2 h (Nat.le_of_ble_eq_true rfl) (Nat.le_of_ble_eq_true rfl) hW dJo_isKnownKind_28
      · replace h := if_t hc8 h
        refine lv_iconst hx hb dJo_isKnownKind_23 (v := (1 : Int32)) rfl ?_
        refine lv_goto hx hb dJo_isKnownKind_24 (tgt := 28) rfl ?_
        replace h := ob h; obtain ⟨z7, ez7, h⟩ := h
        exact hq_zret hx hb hr hlocks (bz_some ez7).2 h (Nat.le_of_ble_eq_true rfl) (Nat.le_of_ble_eq_true rfl) hW dJo_isKnownKind_28
def fJo_refusal (t0 : Nat) (S : Ws) : Option (Int32 × Ws) :=
  (gI S t0 [3, 4] 2).bind fun v1 => if v1 = 1 ∨ v1 = 2 ∨ v1 = 15 then (gO S t0 [3, 4]).bind fun q5 => (fJo_spanRefusal t0 (16 : Int32) (16 : Int32) S).bind fun (v4, S3) => some (v4, S3) else if v1 = 3 ∨ v1 = 4 ∨ v1 = 16 then (gO S t0 [3, 4]).bind fun q11 => (fJo_spanRefusal t0 (4 : Int32) (8 : Int32) S).bind fun (v10, S9) => some (v10, S9) else if v1 = 5 then (gO S t0 [3, 4]).bind fun q17 => (fJo_word t0 (0 : Int32) S).bind fun (v16, S15) => if v16 = 0 then (gI S15 t0 [3, 4] 3).bind fun v19 => if (16 : Int32) ≤ v19 then some ((2 : Int32), S15) else some ((0 : Int32), S15) else (gO S15 t0 [3, 4]).bind fun q23 => (fJo_word t0 (0 : Int32) S15).bind fun (v22, S21) => if v22 = (65280 : Int32) then (gI S21 t0 [3, 4] 3).bind fun v25 => if (16 : Int32) ≤ v25 then some ((2 : Int32), S21) else some ((0 : Int32), S21) else some ((3 : Int32), S21) else if v1 = 6 ∨ v1 = 22 then (gI S t0 [3, 4] 3).bind fun v30 => if (8 : Int32) ≤ v30 then some ((2 : Int32), S) else some ((0 : Int32), S) else if v1 = 7 ∨ v1 = 9 ∨ v1 = 10 ∨ v1 = 11 ∨ v1 = 12 ∨ v1 = 13 ∨ v1 = 14 ∨ v1 = 17 ∨ v1 = 18 ∨ v1 = 19 ∨ v1 = 20 ∨ v1 = 21 then some ((1 : Int32), S) else if v1 = 8 then (gO S t0 [3, 4]).bind fun q38 => (fJo_isKnownKind t0 S).bind fun (v37, S36) => if v37 = 0 then some ((3 : Int32), S36) else some ((0 : Int32), S36) else some ((1 : Int32), S)
set_option maxRecDepth 100000 in
set_option maxHeartbeats 4000000 in
theorem kJo_refusal (l : Launch) (D : va_G) (tc : Nat → ClassId) (b : Nat) (t0 : Nat) (S Sz : Ws) (rr : Int32) (h : fJo_refusal t0 S = some (rr, Sz)) : Met l yJo_refusal wsJo_refusal { frames := 2, cells := 0, slots := 0, locals := 80 } (va_Pc [.ref t0] (Wp D vwCl (hTy tc) b S)) (va_Qi (fun x (_ : Unit) => x = rr) (fun _ => Wp D vwCl (hTy tc) b Sz) (fun q => b ≤ q)) 0 0 (fun q => b ≤ q) := by
  refine hq_ofW (cc := cJo_refusal) (maxL := 1) (ret := (some .int)) (by decide) rfl (Nat.le_of_ble_eq_true rfl) fun p e s m args below meth c hx hb hr hts hown hlocks hnm hml H locs ls hl hW => ?_
  have hts : ∀ w ∈ lwG, w.before args s = true := fun w h => hts w (List.mem_cons_of_mem _ h)
  have hown : s.vm.findClass "SerialPlant$Job" = some m.cls := hown
  have hl : lv_has ls 1 [(0, .ref t0)] := hl
  unfold fJo_refusal at h
  refine lv_aload_n hx hb dJo_refusal_0 rfl (lv_at hl 0 rfl) ?_
  replace h := ob h; obtain ⟨v1, ev1, h⟩ := h
  refine hq_get hx hb hts hown hW (gI_V ev1) (F_Jo_18 hts) dJo_refusal_1 ?_
  by_cases hc2 : v1 = 1 ∨ v1 = 2 ∨ v1 = 15
  · replace h := if_t hc2 h
    have hT7 : W p l e { frames := 2, cells := 0, slots := 0, locals := 80 } s m args below meth c H locs 0 0 (MQ below (va_Qi (fun x (_ : Unit) => x = rr) (fun _ => Wp D vwCl (hTy tc) b Sz) (fun q => b ≤ q)) args s 0 0 (fun q => b ≤ q)) (F0 m 108 ls []) := by
      refine lv_aload_n hx hb dJo_refusal_108 rfl (lv_at hl 0 rfl) ?_
      refine lv_bipush hx hb dJo_refusal_109 (v := (16 : Int32)) rfl ?_
      refine lv_bipush hx hb dJo_refusal_111 (v := (16 : Int32)) rfl ?_
      replace h := ob h; obtain ⟨q5, eq5, h⟩ := h
      replace h := ob h; obtain ⟨⟨v4, S3⟩, eS3, h⟩ := h
      have hR6 : va_Run p l e { frames := 2, cells := 0, slots := 0, locals := 80 } s m args below meth c H locs 0 0 0 0 (F0 m 113 ls [.int (16 : Int32), .int (16 : Int32), .ref t0]) [] (va_Qi (fun x (_ : Unit) => x = v4) (fun _ => Wp D vwCl (hTy tc) b S3) (fun q => b ≤ q) (.ref t0 :: [.int (16 : Int32), .int (16 : Int32)]).toArray) (fun q => b ≤ q) := by
        rcases mem2 (gO_some eq5).2 with hq | hq
        · exact va_runU (As := [.int (16 : Int32), .int (16 : Int32)]) (rest := []) ⟨hx, hb, hml, hown, hts⟩ (kJo_spanRefusal l D tc b t0 (16 : Int32) (16 : Int32) S _ _ eS3) (va_cwU 2 hts GU_Jo_32_Po rfl rfl rfl rfl hd_Jo_spanRefusal_U ⟨Nat.le_of_ble_eq_true rfl, Nat.le_of_ble_eq_true rfl⟩) (hq_preV hW (gO_some eq5).1 (by rw [hq]; rfl) rfl) rfl rfl hl.1 rfl (lv_room (by first | exact Nat.le_of_ble_eq_true rfl | (simp only [List.map, rf_cat]; exact Nat.le_of_ble_eq_true rfl))) dJo_refusal_113 ⟨Nat.le_of_ble_eq_true rfl, Nat.le_of_ble_eq_true rfl⟩
        · exact va_runU (As := [.int (16 : Int32), .int (16 : Int32)]) (rest := []) ⟨hx, hb, hml, hown, hts⟩ (kJo_spanRefusal l D tc b t0 (16 : Int32) (16 : Int32) S _ _ eS3) (va_cwU 2 hts GU_Jo_32_Re rfl rfl rfl rfl hd_Jo_spanRefusal_U ⟨Nat.le_of_ble_eq_true rfl, Nat.le_of_ble_eq_true rfl⟩) (hq_preV hW (gO_some eq5).1 (by rw [hq]; rfl) rfl) rfl rfl hl.1 rfl (lv_room (by first | exact Nat.le_of_ble_eq_true rfl | (simp only [List.map, rf_cat]; exact Nat.le_of_ble_eq_true rfl))) dJo_refusal_113 ⟨Nat.le_of_ble_eq_true rfl, Nat.le_of_ble_eq_true rfl⟩
      refine hq_calli (ce := 0) (sl := 0) (hR6) hW rfl rfl (fun H locs hW => ?_)
      exact hq_iret hx hb hr hlocks h (Nat.le_of_ble_eq_true rfl) (Nat.le_of_ble_eq_true rfl) hW dJo_refusal_116
    rcases hc2 with hc2 | hc2 | hc2
    · refine lv_tableIn hx hb dJo_refusal_4 (tgt := 108) (by rw [hc2]; decide) (by rw [hc2]; decide) (by rw [hc2] <;> rfl) rfl ?_
      exact hT7
    · refine lv_tableIn hx hb dJo_refusal_4 (tgt := 108) (by rw [hc2]; decide) (by rw [hc2]; decide) (by rw [hc2] <;> rfl) rfl ?_
      exact hT7
    · refine lv_tableIn hx hb dJo_refusal_4 (tgt := 108) (by rw [hc2]; decide) (by rw [hc2]; decide) (by rw [hc2] <;> rfl) rfl ?_
      exact hT7
  · replace h := if_f hc2 h
    have hc2n0 : ¬ v1 = 1 := fun q => hc2 (Or.inl q)
    have hc2n1 : ¬ v1 = 2 := fun q => hc2 (Or.inr (Or.inl q))
    have hc2n2 : ¬ v1 = 15 := fun q => hc2 (Or.inr (Or.inr q))
    by_cases hc8 : v1 = 3 ∨ v1 = 4 ∨ v1 = 16
    · replace h := if_t hc8 h
      have hT13 : W p l e { frames := 2, cells := 0, slots := 0, locals := 80 } s m args below meth c H locs 0 0 (MQ below (va_Qi (fun x (_ : Unit) => x = rr) (fun _ => Wp D vwCl (hTy tc) b Sz) (fun q => b ≤ q)) args s 0 0 (fun q => b ≤ q)) (F0 m 117 ls []) := by
        refine lv_aload_n hx hb dJo_refusal_117 rfl (lv_at hl 0 rfl) ?_
        refine lv_iconst hx hb dJo_refusal_118 (v := (4 : Int32)) rfl ?_
        refine lv_bipush hx hb dJo_refusal_119 (v := (8 : Int32)) rfl ?_
        replace h := ob h; obtain ⟨q11, eq11, h⟩ := h
        replace h := ob h; obtain ⟨⟨v10, S9⟩, eS9, h⟩ := h
        have hR12 : va_Run p l e { frames := 2, cells := 0, slots := 0, locals := 80 } s m args below meth c H locs 0 0 0 0 (F0 m 121 ls [.int (8 : Int32), .int (4 : Int32), .ref t0]) [] (va_Qi (fun x (_ : Unit) => x = v10) (fun _ => Wp D vwCl (hTy tc) b S9) (fun q => b ≤ q) (.ref t0 :: [.int (4 : Int32), .int (8 : Int32)]).toArray) (fun q => b ≤ q) := by
          rcases mem2 (gO_some eq11).2 with hq | hq
          · exact va_runU (As := [.int (4 : Int32), .int (8 : Int32)]) (rest := []) ⟨hx, hb, hml, hown, hts⟩ (kJo_spanRefusal l D tc b t0 (4 : Int32) (8 : Int32) S _ _ eS9) (va_cwU 2 hts GU_Jo_32_Po rfl rfl rfl rfl hd_Jo_spanRefusal_U ⟨Nat.le_of_ble_eq_true rfl, Nat.le_of_ble_eq_true rfl⟩) (hq_preV hW (gO_some eq11).1 (by rw [hq]; rfl) rfl) rfl rfl hl.1 rfl (lv_room (by first | exact Nat.le_of_ble_eq_true rfl | (simp only [List.map, rf_cat]; exact Nat.le_of_ble_eq_true rfl))) dJo_refusal_121 ⟨Nat.le_of_ble_eq_true rfl, Nat.le_of_ble_eq_true rfl⟩
          · exact va_runU (As := [.int (4 : Int32), .int (8 : Int32)]) (rest := []) ⟨hx, hb, hml, hown, hts⟩ (kJo_spanRefusal l D tc b t0 (4 : Int32) (8 : Int32) S _ _ eS9) (va_cwU 2 hts GU_Jo_32_Re rfl rfl rfl rfl hd_Jo_spanRefusal_U ⟨Nat.le_of_ble_eq_true rfl, Nat.le_of_ble_eq_true rfl⟩) (hq_preV hW (gO_some eq11).1 (by rw [hq]; rfl) rfl) rfl rfl hl.1 rfl (lv_room (by first | exact Nat.le_of_ble_eq_true rfl | (simp only [List.map, rf_cat]; exact Nat.le_of_ble_eq_true rfl))) dJo_refusal_121 ⟨Nat.le_of_ble_eq_true rfl, Nat.le_of_ble_eq_true rfl⟩
        refine hq_calli (ce := 0) (sl := 0) (hR12) hW rfl rfl (fun H locs hW => ?_)
        exact hq_iret hx hb hr hlocks h (Nat.le_of_ble_eq_true rfl) (Nat.le_of_ble_eq_true rfl) hW dJo_refusal_124
      rcases hc8 with hc8 | hc8 | hc8
      · refine lv_tableIn hx hb dJo_refusal_4 (tgt := 117) (by rw [hc8]; decide) (by rw [hc8]; decide) (by rw [hc8] <;> rfl) rfl ?_
        exact hT13
      · refine lv_tableIn hx hb dJo_refusal_4 (tgt := 117) (by rw [hc8]; decide) (by rw [hc8]; decide) (by rw [hc8] <;> rfl) rfl ?_
        exact hT13
      · refine lv_tableIn hx hb dJo_refusal_4 (tgt := 117) (by rw [hc8]; decide) (by rw [hc8]; decide) (by rw [hc8] <;> rfl) rfl ?_
        exact hT13
    · replace h := if_f hc8 h
      have hc8n0 : ¬ v1 = 3 := fun q => hc8 (Or.inl q)
      have hc8n1 : ¬ v1 = 4 := fun q => hc8 (Or.inr (Or.inl q))
      have hc8n2 : ¬ v1 = 16 := fun q => hc8 (Or.inr (Or.inr q))
      by_cases hc14 : v1 = 5
      · replace h := if_t hc14 h
        refine lv_tableIn hx hb dJo_refusal_4 (tgt := 125) (by rw [hc14]; decide) (by rw [hc14]; decide) (by rw [hc14] <;> rfl) rfl ?_
        refine lv_aload_n hx hb dJo_refusal_125 rfl (lv_at hl 0 rfl) ?_
        refine lv_iconst hx hb dJo_refusal_126 (v := (0 : Int32)) rfl ?_
        replace h := ob h; obtain ⟨q17, eq17, h⟩ := h
        replace h := ob h; obtain ⟨⟨v16, S15⟩, eS15, h⟩ := h
        have hR18 : va_Run p l e { frames := 2, cells := 0, slots := 0, locals := 80 } s m args below meth c H locs 0 0 0 0 (F0 m 127 ls [.int (0 : Int32), .ref t0]) [] (va_Qi (fun x (_ : Unit) => x = v16) (fun _ => Wp D vwCl (hTy tc) b S15) (fun q => b ≤ q) (.ref t0 :: [.int (0 : Int32)]).toArray) (fun q => b ≤ q) := by
          rcases mem2 (gO_some eq17).2 with hq | hq
          · exact va_runU (As := [.int (0 : Int32)]) (rest := []) ⟨hx, hb, hml, hown, hts⟩ (kJo_word l D tc b t0 (0 : Int32) S _ _ eS15) (va_cwU 1 hts GU_Jo_36_Po rfl rfl rfl rfl hd_Jo_word_U ⟨Nat.le_of_ble_eq_true rfl, Nat.le_of_ble_eq_true rfl⟩) (hq_preV hW (gO_some eq17).1 (by rw [hq]; rfl) rfl) rfl rfl hl.1 rfl (lv_room (by first | exact Nat.le_of_ble_eq_true rfl | (simp only [List.map, rf_cat]; exact Nat.le_of_ble_eq_true rfl))) dJo_refusal_127 ⟨Nat.le_of_ble_eq_true rfl, Nat.le_of_ble_eq_true rfl⟩
          · exact va_runU (As := [.int (0 : Int32)]) (rest := []) ⟨hx, hb, hml, hown, hts⟩ (kJo_word l D tc b t0 (0 : Int32) S _ _ eS15) (va_cwU 1 hts GU_Jo_36_Re rfl rfl rfl rfl hd_Jo_word_U ⟨Nat.le_of_ble_eq_true rfl, Nat.le_of_ble_eq_true rfl⟩) (hq_preV hW (gO_some eq17).1 (by rw [hq]; rfl) rfl) rfl rfl hl.1 rfl (lv_room (by first | exact Nat.le_of_ble_eq_true rfl | (simp only [List.map, rf_cat]; exact Nat.le_of_ble_eq_true rfl))) dJo_refusal_127 ⟨Nat.le_of_ble_eq_true rfl, Nat.le_of_ble_eq_true rfl⟩
        refine hq_calli (ce := 0) (sl := 0) (hR18) hW rfl rfl (fun H locs hW => ?_)
        refine lv_if_eq hx hb dJo_refusal_130 (tgt := 145) rfl (fun hc28 => ?_) (fun hc28 => ?_)
        · replace h := if_t hc28 h
          refine lv_aload_n hx hb dJo_refusal_145 rfl (lv_at hl 0 rfl) ?_
          replace h := ob h; obtain ⟨v19, ev19, h⟩ := h
          refine hq_get hx hb hts hown hW (gI_V ev19) (F_Jo_21 hts) dJo_refusal_146 ?_
          refine lv_bipush hx hb dJo_refusal_149 (v := (16 : Int32)) rfl ?_
          refine lv_icmp_ge hx hb dJo_refusal_151 (tgt := 158) rfl (fun hc20 => ?_) (fun hc20 => ?_)
          · replace h := if_t hc20 h
            refine lv_iconst hx hb dJo_refusal_158 (v := (2 : Int32)) rfl ?_
            exact hq_iret hx hb hr hlocks h (Nat.le_of_ble_eq_true rfl) (Nat.le_of_ble_eq_true rfl) hW dJo_refusal_159
          · replace h := if_f hc20 h
            refine lv_iconst hx hb dJo_refusal_154 (v := (0 : Int32)) rfl ?_
            refine lv_goto hx hb dJo_refusal_155 (tgt := 159) rfl ?_
            exact hq_iret hx hb hr hlocks h (Nat.le_of_ble_eq_true rfl) (Nat.le_of_ble_eq_true rfl) hW dJo_refusal_159
        · replace h := if_f hc28 h
          refine lv_aload_n hx hb dJo_refusal_133 rfl (lv_at hl 0 rfl) ?_
          refine lv_iconst hx hb dJo_refusal_134 (v := (0 : Int32)) rfl ?_
          replace h := ob h; obtain ⟨q23, eq23, h⟩ := h
          replace h := ob h; obtain ⟨⟨v22, S21⟩, eS21, h⟩ := h
          have hR24 : va_Run p l e { frames := 2, cells := 0, slots := 0, locals := 80 } s m args below meth c H locs 0 0 0 0 (F0 m 135 ls [.int (0 : Int32), .ref t0]) [] (va_Qi (fun x (_ : Unit) => x = v22) (fun _ => Wp D vwCl (hTy tc) b S21) (fun q => b ≤ q) (.ref t0 :: [.int (0 : Int32)]).toArray) (fun q => b ≤ q) := by
            rcases mem2 (gO_some eq23).2 with hq | hq
            · exact va_runU (As := [.int (0 : Int32)]) (rest := []) ⟨hx, hb, hml, hown, hts⟩ (kJo_word l D tc b t0 (0 : Int32) S15 _ _ eS21) (va_cwU 1 hts GU_Jo_36_Po rfl rfl rfl rfl hd_Jo_word_U ⟨Nat.le_of_ble_eq_true rfl, Nat.le_of_ble_eq_true rfl⟩) (hq_preV hW (gO_some eq23).1 (by rw [hq]; rfl) rfl) rfl rfl hl.1 rfl (lv_room (by first | exact Nat.le_of_ble_eq_true rfl | (simp only [List.map, rf_cat]; exact Nat.le_of_ble_eq_true rfl))) dJo_refusal_135 ⟨Nat.le_of_ble_eq_true rfl, Nat.le_of_ble_eq_true rfl⟩
            · exact va_runU (As := [.int (0 : Int32)]) (rest := []) ⟨hx, hb, hml, hown, hts⟩ (kJo_word l D tc b t0 (0 : Int32) S15 _ _ eS21) (va_cwU 1 hts GU_Jo_36_Re rfl rfl rfl rfl hd_Jo_word_U ⟨Nat.le_of_ble_eq_true rfl, Nat.le_of_ble_eq_true rfl⟩) (hq_preV hW (gO_some eq23).1 (by rw [hq]; rfl) rfl) rfl rfl hl.1 rfl (lv_room (by first | exact Nat.le_of_ble_eq_true rfl | (simp only [List.map, rf_cat]; exact Nat.le_of_ble_eq_true rfl))) dJo_refusal_135 ⟨Nat.le_of_ble_eq_true rfl, Nat.le_of_ble_eq_true rfl⟩
          refine hq_calli (ce := 0) (sl := 0) (hR24) hW rfl rfl (fun H locs hW => ?_)
          refine lv_ldc hx hb (v := (65280 : Int32)) hown (hts _ w_494) dJo_refusal_138 ?_
          refine lv_icmp_eq hx hb dJo_refusal_140 (tgt := 145) rfl (fun hc27 => ?_) (fun hc27 => ?_)
          · replace h := if_t hc27 h
            refine lv_aload_n hx hb dJo_refusal_145 rfl (lv_at hl 0 rfl) ?_
            replace h := ob h; obtain ⟨v25, ev25, h⟩ := h
            refine hq_get hx hb hts hown hW (gI_V ev25) (F_Jo_21 hts) dJo_refusal_146 ?_
            refine lv_bipush hx hb dJo_refusal_149 (v := (16 : Int32)) rfl ?_
            refine lv_icmp_ge hx hb dJo_refusal_151 (tgt := 158) rfl (fun hc26 => ?_) (fun hc26 => ?_)
            · replace h := if_t hc26 h
              refine lv_iconst hx hb dJo_refusal_158 (v := (2 : Int32)) rfl ?_
              exact hq_iret hx hb hr hlocks h (Nat.le_of_ble_eq_true rfl) (Nat.le_of_ble_eq_true rfl) hW dJo_refusal_159
            · replace h := if_f hc26 h
              refine lv_iconst hx hb dJo_refusal_154 (v := (0 : Int32)) rfl ?_
              refine lv_goto hx hb dJo_refusal_155 (tgt := 159) rfl ?_
              exact hq_iret hx hb hr hlocks h (Nat.le_of_ble_eq_true rfl) (Nat.le_of_ble_eq_true rfl) hW dJo_refusal_159
          · replace h := if_f hc27 h
            refine lv_iconst hx hb dJo_refusal_143 (v := (3 : Int32)) rfl ?_
            exact hq_iret hx hb hr hlocks h (Nat.le_of_ble_eq_true rfl) (Nat.le_of_ble_eq_true rfl) hW dJo_refusal_144
      · replace h := if_f hc14 h
        have hc14n0 := hc14
        by_cases hc29 : v1 = 6 ∨ v1 = 22
        · replace h := if_t hc29 h
          have hT32 : W p l e { frames := 2, cells := 0, slots := 0, locals := 80 } s m args below meth c H locs 0 0 (MQ below (va_Qi (fun x (_ : Unit) => x = rr) (fun _ => Wp D vwCl (hTy tc) b Sz) (fun q => b ≤ q)) args s 0 0 (fun q => b ≤ q)) (F0 m 160 ls []) := by
            refine lv_aload_n hx hb dJo_refusal_160 rfl (lv_at hl 0 rfl) ?_
            replace h := ob h; obtain ⟨v30, ev30, h⟩ := h
            refine hq_get hx hb hts hown hW (gI_V ev30) (F_Jo_21 hts) dJo_refusal_161 ?_
            refine lv_bipush hx hb dJo_refusal_164 (v := (8 : Int32)) rfl ?_
            refine lv_icmp_ge hx hb dJo_refusal_166 (tgt := 173) rfl (fun hc31 => ?_) (fun hc31 => ?_)
            · replace h := if_t hc31 h
              refine lv_iconst hx hb dJo_refusal_173 (v := (2 : Int32)) rfl ?_
              exact hq_iret hx hb hr hlocks h (Nat.le_of_ble_eq_true rfl) (Nat.le_of_ble_eq_true rfl) hW dJo_refusal_174
            · replace h := if_f hc31 h
              refine lv_iconst hx hb dJo_refusal_169 (v := (0 : Int32)) rfl ?_
              refine lv_goto hx hb dJo_refusal_170 (tgt := 174) rfl ?_
              exact hq_iret hx hb hr hlocks h (Nat.le_of_ble_eq_true rfl) (Nat.le_of_ble_eq_true rfl) hW dJo_refusal_174
          rcases hc29 with hc29 | hc29
          · refine lv_tableIn hx hb dJo_refusal_4 (tgt := 160) (by rw [hc29]; decide) (by rw [hc29]; decide) (by rw [hc29] <;> rfl) rfl ?_
            exact hT32
          · refine lv_tableIn hx hb dJo_refusal_4 (tgt := 160) (by rw [hc29]; decide) (by rw [hc29]; decide) (by rw [hc29] <;> rfl) rfl ?_
            exact hT32
        · replace h := if_f hc29 h
          have hc29n0 : ¬ v1 = 6 := fun q => hc29 (Or.inl q)
          have hc29n1 : ¬ v1 = 22 := fun q => hc29 (Or.inr q)
          by_cases hc33 : v1 = 7 ∨ v1 = 9 ∨ v1 = 10 ∨ v1 = 11 ∨ v1 = 12 ∨ v1 = 13 ∨ v1 = 14 ∨ v1 = 17 ∨ v1 = 18 ∨ v1 = 19 ∨ v1 = 20 ∨ v1 = 21
          · replace h := if_t hc33 h
            have hT34 : W p l e { frames := 2, cells := 0, slots := 0, locals := 80 } s m args below meth c H locs 0 0 (MQ below (va_Qi (fun x (_ : Unit) => x = rr) (fun _ => Wp D vwCl (hTy tc) b Sz) (fun q => b ≤ q)) args s 0 0 (fun q => b ≤ q)) (F0 m 188 ls []) := by
              refine lv_iconst hx hb dJo_refusal_188 (v := (1 : Int32)) rfl ?_
              exact hq_iret hx hb hr hlocks h (Nat.le_of_ble_eq_true rfl) (Nat.le_of_ble_eq_true rfl) hW dJo_refusal_189
            rcases hc33 with hc33 | hc33 | hc33 | hc33 | hc33 | hc33 | hc33 | hc33 | hc33 | hc33 | hc33 | hc33
            · refine lv_tableIn hx hb dJo_refusal_4 (tgt := 188) (by rw [hc33]; decide) (by rw [hc33]; decide) (by rw [hc33] <;> rfl) rfl ?_
              exact hT34
            · refine lv_tableIn hx hb dJo_refusal_4 (tgt := 188) (by rw [hc33]; decide) (by rw [hc33]; decide) (by rw [hc33] <;> rfl) rfl ?_
              exact hT34
            · refine lv_tableIn hx hb dJo_refusal_4 (tgt := 188) (by rw [hc33]; decide) (by rw [hc33]; decide) (by rw [hc33] <;> rfl) rfl ?_
              exact hT34
            · refine lv_tableIn hx hb dJo_refusal_4 (tgt := 188) (by rw [hc33]; decide) (by rw [hc33]; decide) (by rw [hc33] <;> rfl) rfl ?_
              exact hT34
            · refine lv_tableIn hx hb dJo_refusal_4 (tgt := 188) (by rw [hc33]; decide) (by rw [hc33]; decide) (by rw [hc33] <;> rfl) rfl ?_
              exact hT34
            · refine lv_tableIn hx hb dJo_refusal_4 (tgt := 188) (by rw [hc33]; decide) (by rw [hc33]; decide) (by rw [hc33] <;> rfl) rfl ?_
              exact hT34
            · refine lv_tableIn hx hb dJo_refusal_4 (tgt := 188) (by rw [hc33]; decide) (by rw [hc33]; decide) (by rw [hc33] <;> rfl) rfl ?_
              exact hT34
            · refine lv_tableIn hx hb dJo_refusal_4 (tgt := 188) (by rw [hc33]; decide) (by rw [hc33]; decide) (by rw [hc33] <;> rfl) rfl ?_
              exact hT34
            · refine lv_tableIn hx hb dJo_refusal_4 (tgt := 188) (by rw [hc33]; decide) (by rw [hc33]; decide) (by rw [hc33] <;> rfl) rfl ?_
              exact hT34
            · refine lv_tableIn hx hb dJo_refusal_4 (tgt := 188) (by rw [hc33]; decide) (by rw [hc33]; decide) (by rw [hc33] <;> rfl) rfl ?_
              exact hT34
            · refine lv_tableIn hx hb dJo_refusal_4 (tgt := 188) (by rw [hc33]; decide) (by rw [hc33]; decide) (by rw [hc33] <;> rfl) rfl ?_
              exact hT34
            · refine lv_tableIn hx hb dJo_refusal_4 (tgt := 188) (by rw [hc33]; decide) (by rw [hc33]; decide) (by rw [hc33] <;> rfl) rfl ?_
              exact hT34
          · replace h := if_f hc33 h
            have hc33n0 : ¬ v1 = 7 := fun q => hc33 (Or.inl q)
            have hc33n1 : ¬ v1 = 9 := fun q => hc33 (Or.inr (Or.inl q))
            have hc33n2 : ¬ v1 = 10 := fun q => hc33 (Or.inr (Or.inr (Or.inl q)))
            have hc33n3 : ¬ v1 = 11 := fun q => hc33 (Or.inr (Or.inr (Or.inr (Or.inl q))))
            have hc33n4 : ¬ v1 = 12 := fun q => hc33 (Or.inr (Or.inr (Or.inr (Or.inr (Or.inl q)))))
            have hc33n5 : ¬ v1 = 13 := fun q => hc33 (Or.inr (Or.inr (Or.inr (Or.inr (Or.inr (Or.inl q))))))
            have hc33n6 : ¬ v1 = 14 := fun q => hc33 (Or.inr (Or.inr (Or.inr (Or.inr (Or.inr (Or.inr (Or.inl q)))))))
            have hc33n7 : ¬ v1 = 17 := fun q => hc33 (Or.inr (Or.inr (Or.inr (Or.inr (Or.inr (Or.inr (Or.inr (Or.inl q))))))))
            have hc33n8 : ¬ v1 = 18 := fun q => hc33 (Or.inr (Or.inr (Or.inr (Or.inr (Or.inr (Or.inr (Or.inr (Or.inr (Or.inl q)))))))))
            have hc33n9 : ¬ v1 = 19 := fun q => hc33 (Or.inr (Or.inr (Or.inr (Or.inr (Or.inr (Or.inr (Or.inr (Or.inr (Or.inr (Or.inl q))))))))))
            have hc33n10 : ¬ v1 = 20 := fun q => hc33 (Or.inr (Or.inr (Or.inr (Or.inr (Or.inr (Or.inr (Or.inr (Or.inr (Or.inr (Or.inr (Or.inl q)))))))))))
            have hc33n11 : ¬ v1 = 21 := fun q => hc33 (Or.inr (Or.inr (Or.inr (Or.inr (Or.inr (Or.inr (Or.inr (Or.inr (Or.inr (Or.inr (Or.inr q)))))))))))
            by_cases hc35 : v1 = 8
            · replace h := if_t hc35 h
              refine lv_tableIn hx hb dJo_refusal_4 (tgt := 175) (by rw [hc35]; decide) (by rw [hc35]; decide) (by rw [hc35] <;> rfl) rfl ?_
              refine lv_aload_n hx hb dJo_refusal_175 rfl (lv_at hl 0 rfl) ?_
              replace h := ob h; obtain ⟨q38, eq38, h⟩ := h
              replace h := ob h; obtain ⟨⟨v37, S36⟩, eS36, h⟩ := h
              have hR39 : va_Run p l e { frames := 2, cells := 0, slots := 0, locals := 80 } s m args below meth c H locs 0 0 0 0 (F0 m 176 ls [.ref t0]) [] (va_Qi (fun x (_ : Unit) => x = v37) (fun _ => Wp D vwCl (hTy tc) b S36) (fun q => b ≤ q) (.ref t0 :: []).toArray) (fun q => b ≤ q) := by
                rcases mem2 (gO_some eq38).2 with hq | hq
                · exact va_runU (As := []) (rest := []) ⟨hx, hb, hml, hown, hts⟩ (kJo_isKnownKind l D tc b t0 S _ _ eS36) (va_cwU 0 hts GU_Jo_41_Po rfl rfl rfl rfl hd_Jo_isKnownKind_U ⟨Nat.le_of_ble_eq_true rfl, Nat.le_of_ble_eq_true rfl⟩) (hq_preV hW (gO_some eq38).1 (by rw [hq]; rfl) rfl) rfl rfl hl.1 rfl (lv_room (by first | exact Nat.le_of_ble_eq_true rfl | (simp only [List.map, rf_cat]; exact Nat.le_of_ble_eq_true rfl))) dJo_refusal_176 ⟨Nat.le_of_ble_eq_true rfl, Nat.le_of_ble_eq_true rfl⟩
                · exact va_runU (As := []) (rest := []) ⟨hx, hb, hml, hown, hts⟩ (kJo_isKnownKind l D tc b t0 S _ _ eS36) (va_cwU 0 hts GU_Jo_41_Re rfl rfl rfl rfl hd_Jo_isKnownKind_U ⟨Nat.le_of_ble_eq_true rfl, Nat.le_of_ble_eq_true rfl⟩) (hq_preV hW (gO_some eq38).1 (by rw [hq]; rfl) rfl) rfl rfl hl.1 rfl (lv_room (by first | exact Nat.le_of_ble_eq_true rfl | (simp only [List.map, rf_cat]; exact Nat.le_of_ble_eq_true rfl))) dJo_refusal_176 ⟨Nat.le_of_ble_eq_true rfl, Nat.le_of_ble_eq_true rfl⟩
              refine hq_calli (ce := 0) (sl := 0) (hR39) hW rfl rfl (fun H locs hW => ?_)
              refine lv_if_eq hx hb dJo_refusal_179 (tgt := 186) rfl (fun hc40 => ?_) (fun hc40 => ?_)
              · replace h := if_t hc40 h
                refine lv_iconst hx hb dJo_refusal_186 (v := (3 : Int32)) rfl ?_
                exact hq_iret hx hb hr hlocks h (Nat.le_of_ble_eq_true rfl) (Nat.le_of_ble_eq_true rfl) hW dJo_refusal_187
              · replace h := if_f hc40 h
                refine lv_iconst hx hb dJo_refusal_182 (v := (0 : Int32)) rfl ?_
                refine lv_goto hx hb dJo_refusal_183 (tgt := 187) rfl ?_
                exact hq_iret hx hb hr hlocks h (Nat.le_of_ble_eq_true rfl) (Nat.le_of_ble_eq_true rfl) hW dJo_refusal_187
            · replace h := if_f hc35 h
              have hc35n0 := hc35
              refine lv_tableOut hx hb dJo_refusal_4 (tgt := 188) (by have g0 := lv_neT hc2n0 (a := 1) rfl; have g1 := lv_neT hc2n1 (a := 2) rfl; have g2 := lv_neT hc8n0 (a := 3) rfl; have g3 := lv_neT hc8n1 (a := 4) rfl; have g4 := lv_neT hc14n0 (a := 5) rfl; have g5 := lv_neT hc29n0 (a := 6) rfl; have g6 := lv_neT hc33n0 (a := 7) rfl; have g7 := lv_neT hc35n0 (a := 8) rfl; have g8 := lv_neT hc33n1 (a := 9) rfl; have g9 := lv_neT hc33n2 (a := 10) rfl; have g10 := lv_neT hc33n3 (a := 11) rfl; have g11 := lv_neT hc33n4 (a := 12) rfl; have g12 := lv_neT hc33n5 (a := 13) rfl; have g13 := lv_neT hc33n6 (a := 14) rfl; have g14 := lv_neT hc2n2 (a := 15) rfl; have g15 := lv_neT hc8n2 (a := 16) rfl; have g16 := lv_neT hc33n7 (a := 17) rfl; have g17 := lv_neT hc33n8 (a := 18) rfl; have g18 := lv_neT hc33n9 (a := 19) rfl; have g19 := lv_neT hc33n10 (a := 20) rfl; have g20 := lv_neT hc33n11 (a := 21) rfl; have g21 := lv_neT hc29n1 (a := 22) rfl; omega) rfl ?_
              refine lv_iconst hx hb dJo_refusal_188 (v := (1 : Int32)) rfl ?_
              exact hq_iret hx hb hr hlocks h (Nat.le_of_ble_eq_true rfl) (Nat.le_of_ble_eq_true rfl) hW dJo_refusal_189
def fJo_bit (t0 : Nat) (t1 : Int32) (S : Ws) : Option (Int32 × Ws) :=
  (gL S t0 [3, 4] 5).bind fun u1 => some ((((u1.toUInt64 >>> (t1.toInt64.toUInt64 &&& Int64.toUInt64 63)).toInt64).toInt32) &&& (1 : Int32), S)
set_option maxRecDepth 100000 in
set_option maxHeartbeats 4000000 in
theorem kJo_bit (l : Launch) (D : va_G) (tc : Nat → ClassId) (b : Nat) (t0 : Nat) (t1 : Int32) (S Sz : Ws) (rr : Int32) (h : fJo_bit t0 t1 S = some (rr, Sz)) : Met l yJo_bit wsJo_bit { frames := 1, cells := 0, slots := 0, locals := 40 } (va_Pc [.ref t0, .int t1] (Wp D vwCl (hTy tc) b S)) (va_Qi (fun x (_ : Unit) => x = rr) (fun _ => Wp D vwCl (hTy tc) b Sz) (fun q => b ≤ q)) 0 0 (fun q => b ≤ q) := by
  refine hq_ofW (cc := cJo_bit) (maxL := 2) (ret := (some .int)) (by decide) rfl (Nat.le_of_ble_eq_true rfl) fun p e s m args below meth c hx hb hr hts hown hlocks hnm hml H locs ls hl hW => ?_
  have hts : ∀ w ∈ lwG, w.before args s = true := fun w h => hts w (List.mem_cons_of_mem _ h)
  have hown : s.vm.findClass "SerialPlant$Job" = some m.cls := hown
  have hl : lv_has ls 2 [(0, .ref t0), (1, .int t1)] := hl
  unfold fJo_bit at h
  refine lv_aload_n hx hb dJo_bit_0 rfl (lv_at hl 0 rfl) ?_
  replace h := ob h; obtain ⟨u1, eu1, h⟩ := h
  refine hq_get hx hb hts hown hW (gL_V eu1) (F_Jo_27 hts) dJo_bit_1 ?_
  refine lv_iload_n hx hb dJo_bit_4 rfl (lv_at hl 1 rfl) ?_
  refine lv_lushr hx hb dJo_bit_5 (v := (u1.toUInt64 >>> (t1.toInt64.toUInt64 &&& Int64.toUInt64 63)).toInt64) rfl ?_
  refine lv_l2i hx hb dJo_bit_6 (v := ((u1.toUInt64 >>> (t1.toInt64.toUInt64 &&& Int64.toUInt64 63)).toInt64).toInt32) rfl ?_
  refine lv_iconst hx hb dJo_bit_7 (v := (1 : Int32)) rfl ?_
  refine lv_iand hx hb dJo_bit_8 ?_
  exact hq_iret hx hb hr hlocks h (Nat.le_of_ble_eq_true rfl) (Nat.le_of_ble_eq_true rfl) hW dJo_bit_9
def fPo_goUnanswered (t0 : Nat) (S : Ws) : Option (Ws) :=
  some S
set_option maxRecDepth 100000 in
set_option maxHeartbeats 4000000 in
theorem kPo_goUnanswered (l : Launch) (D : va_G) (tc : Nat → ClassId) (b : Nat) (t0 : Nat) (S Sz : Ws) (h : fPo_goUnanswered t0 S = some Sz) : Met l yPo_goUnanswered wsPo_goUnanswered { frames := 1, cells := 0, slots := 0, locals := 40 } (va_Pc [.ref t0] (Wp D vwCl (hTy tc) b S)) (va_Qv (fun _ : Unit => True) (fun _ => Wp D vwCl (hTy tc) b Sz) (fun q => b ≤ q)) 0 0 (fun q => b ≤ q) := by
  refine hq_ofW (cc := cPo_goUnanswered) (maxL := 1) (ret := none) (by decide) rfl (Nat.le_of_ble_eq_true rfl) fun p e s m args below meth c hx hb hr hts hown hlocks hnm hml H locs ls hl hW => ?_
  have hts : ∀ w ∈ lwG, w.before args s = true := fun w h => hts w (List.mem_cons_of_mem _ h)
  have hown : s.vm.findClass "SerialPlant$Poll" = some m.cls := hown
  have hl : lv_has ls 1 [(0, .ref t0)] := hl
  unfold fPo_goUnanswered at h
  exact hq_vret hx hb hr hlocks h (Nat.le_of_ble_eq_true rfl) (Nat.le_of_ble_eq_true rfl) hW dPo_goUnanswered_0
def fRe_goUnanswered (t0 : Nat) (S : Ws) : Option (Ws) :=
  (gO S t0 [4]).bind fun q2 => (fRe_refuse t0 (11 : Int32) S).bind fun S1 => some S1
set_option maxRecDepth 100000 in
set_option maxHeartbeats 4000000 in
theorem kRe_goUnanswered (l : Launch) (D : va_G) (tc : Nat → ClassId) (b : Nat) (t0 : Nat) (S Sz : Ws) (h : fRe_goUnanswered t0 S = some Sz) : Met l yRe_goUnanswered wsRe_goUnanswered { frames := 2, cells := 0, slots := 0, locals := 80 } (va_Pc [.ref t0] (Wp D vwCl (hTy tc) b S)) (va_Qv (fun _ : Unit => True) (fun _ => Wp D vwCl (hTy tc) b Sz) (fun q => b ≤ q)) 0 0 (fun q => b ≤ q) := by
  refine hq_ofW (cc := cRe_goUnanswered) (maxL := 1) (ret := none) (by decide) rfl (Nat.le_of_ble_eq_true rfl) fun p e s m args below meth c hx hb hr hts hown hlocks hnm hml H locs ls hl hW => ?_
  have hts : ∀ w ∈ lwG, w.before args s = true := fun w h => hts w (List.mem_cons_of_mem _ h)
  have hown : s.vm.findClass "SerialPlant$Request" = some m.cls := hown
  have hl : lv_has ls 1 [(0, .ref t0)] := hl
  unfold fRe_goUnanswered at h
  refine lv_aload_n hx hb dRe_goUnanswered_0 rfl (lv_at hl 0 rfl) ?_
  refine lv_bipush hx hb dRe_goUnanswered_1 (v := (11 : Int32)) rfl ?_
  replace h := ob h; obtain ⟨q2, eq2, h⟩ := h
  replace h := ob h; obtain ⟨S1, eS1, h⟩ := h
  refine hq_callv (ce := 0) (sl := 0) (va_runV (As := [.int (11 : Int32)]) (rest := []) ⟨hx, hb, hml, hown, hts⟩ (kRe_refuse l D tc b t0 (11 : Int32) S _ eS1) (cwV 1 hts GV_Re_24_Re rfl rfl rfl hd_Re_refuse_V ⟨Nat.le_of_ble_eq_true rfl, Nat.le_of_ble_eq_true rfl⟩) (hq_preV1 hW eq2 rfl rfl) rfl rfl hl.1 rfl (lv_room (by first | exact Nat.le_of_ble_eq_true rfl | (simp only [List.map, rf_cat]; exact Nat.le_of_ble_eq_true rfl))) dRe_goUnanswered_3 ⟨Nat.le_of_ble_eq_true rfl, Nat.le_of_ble_eq_true rfl⟩) hW rfl rfl (fun H locs hW => ?_)
  exact hq_vret hx hb hr hlocks h (Nat.le_of_ble_eq_true rfl) (Nat.le_of_ble_eq_true rfl) hW dRe_goUnanswered_6
def fHi_part (t0 : Nat) (t1 : Int32) (t2 : Int32) (S : Ws) : Option (Int32 × Ws) :=
  if t1 < 0 then some ((-1 : Int32), S) else (gI S t0 [1] 5).bind fun v1 => if t1 < v1 then (gI S t0 [1] 4).bind fun v2 => if t2 = 0 then (gR S t0 [1] 0).bind fun r4 => (r4).bind fun a5 => (aI S a5 0 ((v2 + t1) - (v2 + t1) / (12 : Int32) * (12 : Int32))).bind fun v6 => some (v6, S) else if t2 = 1 then (gR S t0 [1] 1).bind fun r8 => (r8).bind fun a9 => (aI S a9 0 ((v2 + t1) - (v2 + t1) / (12 : Int32) * (12 : Int32))).bind fun v10 => some (v10, S) else if t2 = 2 then (gR S t0 [1] 2).bind fun r12 => (r12).bind fun a13 => (aI S a13 0 ((v2 + t1) - (v2 + t1) / (12 : Int32) * (12 : Int32))).bind fun v14 => some (v14, S) else some ((-1 : Int32), S) else some ((-1 : Int32), S)
set_option maxRecDepth 100000 in
set_option maxHeartbeats 4000000 in
theorem kHi_part (l : Launch) (D : va_G) (tc : Nat → ClassId) (b : Nat) (t0 : Nat) (t1 : Int32) (t2 : Int32) (S Sz : Ws) (rr : Int32) (h : fHi_part t0 t1 t2 S = some (rr, Sz)) : Met l yHi_part wsHi_part { frames := 1, cells := 0, slots := 0, locals := 40 } (va_Pc [.ref t0, .int t1, .int t2] (Wp D vwCl (hTy tc) b S)) (va_Qi (fun x (_ : Unit) => x = rr) (fun _ => Wp D vwCl (hTy tc) b Sz) (fun q => b ≤ q)) 0 0 (fun q => b ≤ q) := by
  refine hq_ofW (cc := cHi_part) (maxL := 4) (ret := (some .int)) (by decide) rfl (Nat.le_of_ble_eq_true rfl) fun p e s m args below meth c hx hb hr hts hown hlocks hnm hml H locs ls hl hW => ?_
  have hts : ∀ w ∈ lwG, w.before args s = true := fun w h => hts w (List.mem_cons_of_mem _ h)
  have hown : s.vm.findClass "SerialPlant$History" = some m.cls := hown
  have hl : lv_has ls 4 [(0, .ref t0), (1, .int t1), (2, .int t2)] := hl
  unfold fHi_part at h
  refine lv_iload_n hx hb dHi_part_0 rfl (lv_at hl 1 rfl) ?_
  refine lv_if_lt hx hb dHi_part_1 (tgt := 12) rfl (fun hc16 => ?_) (fun hc16 => ?_)
  · replace h := if_t hc16 h
    refine lv_iconst hx hb dHi_part_12 (v := (-1 : Int32)) rfl ?_
    exact hq_iret hx hb hr hlocks h (Nat.le_of_ble_eq_true rfl) (Nat.le_of_ble_eq_true rfl) hW dHi_part_13
  · replace h := if_f hc16 h
    refine lv_iload_n hx hb dHi_part_4 rfl (lv_at hl 1 rfl) ?_
    refine lv_aload_n hx hb dHi_part_5 rfl (lv_at hl 0 rfl) ?_
    replace h := ob h; obtain ⟨v1, ev1, h⟩ := h
    refine hq_get hx hb hts hown hW (gI_V ev1) (F_Hi_28 hts) dHi_part_6 ?_
    refine lv_icmp_lt hx hb dHi_part_9 (tgt := 14) rfl (fun hc15 => ?_) (fun hc15 => ?_)
    · replace h := if_t hc15 h
      refine lv_aload_n hx hb dHi_part_14 rfl (lv_at hl 0 rfl) ?_
      replace h := ob h; obtain ⟨v2, ev2, h⟩ := h
      refine hq_get hx hb hts hown hW (gI_V ev2) (F_Hi_24 hts) dHi_part_15 ?_
      refine lv_iload_n hx hb dHi_part_18 rfl (lv_at hl 1 rfl) ?_
      refine lv_iadd hx hb dHi_part_19 ?_
      refine lv_bipush hx hb dHi_part_20 (v := (12 : Int32)) rfl ?_
      refine lv_irem hx hb dHi_part_22 (by decide) ?_
      refine lv_istore_n (lv' := [(3, .int ((v2 + t1) - (v2 + t1) / (12 : Int32) * (12 : Int32))), (0, .ref t0), (1, .int t1), (2, .int t2)]) hx hb dHi_part_23 rfl hl (Nat.le_of_ble_eq_true rfl) (by first | rfl | (simp [List.filter, rf_cat] <;> rfl)) (fun ls hl => ?_)
      refine lv_iload_n hx hb dHi_part_24 rfl (lv_at hl 3 rfl) ?_
      by_cases hc3 : t2 = 0
      · replace h := if_t hc3 h
        refine lv_tableIn hx hb dHi_part_25 (tgt := 52) (by rw [hc3]; decide) (by rw [hc3]; decide) (by rw [hc3] <;> rfl) rfl ?_
        refine lv_aload_n hx hb dHi_part_52 rfl (lv_at hl 1 rfl) ?_
        replace h := ob h; obtain ⟨r4, er4, h⟩ := h
        refine hq_get hx hb hts hown hW (gR_V er4) (F_Hi_9 hts) dHi_part_53 ?_
        refine lv_iload_n hx hb dHi_part_56 rfl (lv_at hl 0 rfl) ?_
        replace h := ob h; obtain ⟨a5, hra5, h⟩ := h
        subst hra5
        replace h := ob h; obtain ⟨v6, ev6, h⟩ := h
        refine hq_iald hx hb hW ev6 rfl dHi_part_57 ?_
        exact hq_iret hx hb hr hlocks h (Nat.le_of_ble_eq_true rfl) (Nat.le_of_ble_eq_true rfl) hW dHi_part_58
      · replace h := if_f hc3 h
        have hc3n0 := hc3
        by_cases hc7 : t2 = 1
        · replace h := if_t hc7 h
          refine lv_tableIn hx hb dHi_part_25 (tgt := 59) (by rw [hc7]; decide) (by rw [hc7]; decide) (by rw [hc7] <;> rfl) rfl ?_
          refine lv_aload_n hx hb dHi_part_59 rfl (lv_at hl 1 rfl) ?_
          replace h := ob h; obtain ⟨r8, er8, h⟩ := h
          refine hq_get hx hb hts hown hW (gR_V er8) (F_Hi_15 hts) dHi_part_60 ?_
          refine lv_iload_n hx hb dHi_part_63 rfl (lv_at hl 0 rfl) ?_
          replace h := ob h; obtain ⟨a9, hra9, h⟩ := h
          subst hra9
          replace h := ob h; obtain ⟨v10, ev10, h⟩ := h
          refine hq_iald hx hb hW ev10 rfl dHi_part_64 ?_
          exact hq_iret hx hb hr hlocks h (Nat.le_of_ble_eq_true rfl) (Nat.le_of_ble_eq_true rfl) hW dHi_part_65
        · replace h := if_f hc7 h
          have hc7n0 := hc7
          by_cases hc11 : t2 = 2
          · replace h := if_t hc11 h
            refine lv_tableIn hx hb dHi_part_25 (tgt := 66) (by rw [hc11]; decide) (by rw [hc11]; decide) (by rw [hc11] <;> rfl) rfl ?_
            refine lv_aload_n hx hb dHi_part_66 rfl (lv_at hl 1 rfl) ?_
            replace h := ob h; obtain ⟨r12, er12, h⟩ := h
            refine hq_get hx hb hts hown hW (gR_V er12) (F_Hi_18 hts) dHi_part_67 ?_
            refine lv_iload_n hx hb dHi_part_70 rfl (lv_at hl 0 rfl) ?_
            replace h := ob h; obtain ⟨a13, hra13, h⟩ := h
            subst hra13
            replace h := ob h; obtain ⟨v14, ev14, h⟩ := h
            refine hq_iald hx hb hW ev14 rfl dHi_part_71 ?_
            exact hq_iret hx hb hr hlocks h (Nat.le_of_ble_eq_true rfl) (Nat.le_of_ble_eq_true rfl) hW dHi_part_72
          · replace h := if_f hc11 h
            have hc11n0 := hc11
            refine lv_tableOut hx hb dHi_part_25 (tgt := 73) (by have g0 := lv_neT hc3n0 (a := 0) rfl; have g1 := lv_neT hc7n0 (a := 1) rfl; have g2 := lv_neT hc11n0 (a := 2) rfl; omega) rfl ?_
            refine lv_iconst hx hb dHi_part_73 (v := (-1 : Int32)) rfl ?_
            exact hq_iret hx hb hr hlocks h (Nat.le_of_ble_eq_true rfl) (Nat.le_of_ble_eq_true rfl) hW dHi_part_74
    · replace h := if_f hc15 h
      refine lv_iconst hx hb dHi_part_12 (v := (-1 : Int32)) rfl ?_
      exact hq_iret hx hb hr hlocks h (Nat.le_of_ble_eq_true rfl) (Nat.le_of_ble_eq_true rfl) hW dHi_part_13
def fHi_countOf_L6 (S : Ws) (t0 : Nat) (t1 : Int32) (t2 : Int32) (t3 : Int32) : Int32 × Int32 → Option ((Int32 × Int32) ⊕ (Int32)) :=
  fun (i1, i2) => (gI S t0 [1] 5).bind fun v5 => if v5 ≤ i2 then some (.inr i1) else (gI S t0 [1] 4).bind fun v6 => (gR S t0 [1] 1).bind fun r7 => (r7).bind fun a8 => (aI S a8 0 ((v6 + i2) - (v6 + i2) / (12 : Int32) * (12 : Int32))).bind fun v9 => if v9 = t1 then (gR S t0 [1] 0).bind fun r10 => (r10).bind fun a11 => (aI S a11 0 ((v6 + i2) - (v6 + i2) / (12 : Int32) * (12 : Int32))).bind fun v12 => if v12 < t2 then some (.inl (i1, i2 + 1)) else (gR S t0 [1] 0).bind fun r13 => (r13).bind fun a14 => (aI S a14 0 ((v6 + i2) - (v6 + i2) / (12 : Int32) * (12 : Int32))).bind fun v15 => if t3 < v15 then some (.inl (i1, i2 + 1)) else some (.inl (i1 + 1, i2 + 1)) else some (.inl (i1, i2 + 1))
def fHi_countOf (t0 : Nat) (t1 : Int32) (t2 : Int32) (t3 : Int32) (S : Ws) : Option (Int32 × Ws) :=
  (lp (fHi_countOf_L6 S t0 t1 t2 t3) 1000 ((0 : Int32), (0 : Int32))).bind fun i4 => some (i4, S)
set_option maxRecDepth 100000 in
set_option maxHeartbeats 4000000 in
theorem kHi_countOf (l : Launch) (D : va_G) (tc : Nat → ClassId) (b : Nat) (t0 : Nat) (t1 : Int32) (t2 : Int32) (t3 : Int32) (S Sz : Ws) (rr : Int32) (h : fHi_countOf t0 t1 t2 t3 S = some (rr, Sz)) : Met l yHi_countOf wsHi_countOf { frames := 1, cells := 0, slots := 0, locals := 40 } (va_Pc [.ref t0, .int t1, .int t2, .int t3] (Wp D vwCl (hTy tc) b S)) (va_Qi (fun x (_ : Unit) => x = rr) (fun _ => Wp D vwCl (hTy tc) b Sz) (fun q => b ≤ q)) 0 0 (fun q => b ≤ q) := by
  refine hq_ofW (cc := cHi_countOf) (maxL := 7) (ret := (some .int)) (by decide) rfl (Nat.le_of_ble_eq_true rfl) fun p e s m args below meth c hx hb hr hts hown hlocks hnm hml H locs ls hl hW => ?_
  have hts : ∀ w ∈ lwG, w.before args s = true := fun w h => hts w (List.mem_cons_of_mem _ h)
  have hown : s.vm.findClass "SerialPlant$History" = some m.cls := hown
  have hl : lv_has ls 7 [(0, .ref t0), (1, .int t1), (2, .int t2), (3, .int t3)] := hl
  unfold fHi_countOf at h
  refine lv_iconst hx hb dHi_countOf_0 (v := (0 : Int32)) rfl ?_
  refine lv_istore (lv' := [(4, .int (0 : Int32)), (0, .ref t0), (1, .int t1), (2, .int t2), (3, .int t3)]) hx hb dHi_countOf_1 hl (Nat.le_of_ble_eq_true rfl) (by first | rfl | (simp [List.filter, rf_cat] <;> rfl)) (fun ls hl => ?_)
  refine lv_iconst hx hb dHi_countOf_3 (v := (0 : Int32)) rfl ?_
  refine lv_istore (lv' := [(5, .int (0 : Int32)), (4, .int (0 : Int32)), (0, .ref t0), (1, .int t1), (2, .int t2), (3, .int t3)]) hx hb dHi_countOf_4 hl (Nat.le_of_ble_eq_true rfl) (by first | rfl | (simp [List.filter, rf_cat] <;> rfl)) (fun ls hl => ?_)
  replace h := ob h; obtain ⟨i4, ei4, h⟩ := h
  have hX : (fun q' => ∀ (H : Heap) (locs : List Loc) (ls : Array Slot), lv_has ls 7 [(4, .int q')] → Wd D vwCl (hTy tc) b S s H locs → W p l e { frames := 1, cells := 0, slots := 0, locals := 40 } s m args below meth c H locs 0 0 (MQ below (va_Qi (fun x (_ : Unit) => x = rr) (fun _ => Wp D vwCl (hTy tc) b Sz) (fun q => b ≤ q)) args s 0 0 (fun q => b ≤ q)) (F0 m 69 ls [])) i4 := by
    intro H locs ls hl hW
    refine lv_iload hx hb dHi_countOf_69 (lv_at hl 0 rfl) ?_
    exact hq_iret hx hb hr hlocks h (Nat.le_of_ble_eq_true rfl) (Nat.le_of_ble_eq_true rfl) hW dHi_countOf_71
  refine lp_ind (P := fun q' => ∀ (H : Heap) (locs : List Loc) (ls : Array Slot), lv_has ls 7 [(0, .ref t0), (1, .int t1), (2, .int t2), (3, .int t3), (4, .int q'.1), (5, .int q'.2)] → Wd D vwCl (hTy tc) b S s H locs → W p l e { frames := 1, cells := 0, slots := 0, locals := 40 } s m args below meth c H locs 0 0 (MQ below (va_Qi (fun x (_ : Unit) => x = rr) (fun _ => Wp D vwCl (hTy tc) b Sz) (fun q => b ≤ q)) args s 0 0 (fun q => b ≤ q)) (F0 m 6 ls [])) (Q := fun q' => ∀ (H : Heap) (locs : List Loc) (ls : Array Slot), lv_has ls 7 [(4, .int q')] → Wd D vwCl (hTy tc) b S s H locs → W p l e { frames := 1, cells := 0, slots := 0, locals := 40 } s m args below meth c H locs 0 0 (MQ below (va_Qi (fun x (_ : Unit) => x = rr) (fun _ => Wp D vwCl (hTy tc) b Sz) (fun q => b ≤ q)) args s 0 0 (fun q => b ≤ q)) (F0 m 69 ls [])) (fun q' x3 h hin hex => ?_) hX _ _ ei4 _ _ _ (lv_sub hl [2, 3, 4, 5, 1, 0] rfl) hW
  obtain ⟨i1, i2⟩ := q'
  intro H locs ls hl hW
  unfold fHi_countOf_L6 at h
  refine lv_iload hx hb dHi_countOf_6 (lv_at hl 5 rfl) ?_
  refine lv_aload_n hx hb dHi_countOf_8 rfl (lv_at hl 0 rfl) ?_
  replace h := ob h; obtain ⟨v5, ev5, h⟩ := h
  refine hq_get hx hb hts hown hW (gI_V ev5) (F_Hi_28 hts) dHi_countOf_9 ?_
  refine lv_icmp_ge hx hb dHi_countOf_12 (tgt := 69) rfl (fun hc19 => ?_) (fun hc19 => ?_)
  · replace h := if_t hc19 h
    exact hex _ (Option.some.inj h).symm _ _ _ (lv_sub hl [4] rfl) hW
  · replace h := if_f hc19 h
    refine lv_aload_n hx hb dHi_countOf_15 rfl (lv_at hl 0 rfl) ?_
    replace h := ob h; obtain ⟨v6, ev6, h⟩ := h
    refine hq_get hx hb hts hown hW (gI_V ev6) (F_Hi_24 hts) dHi_countOf_16 ?_
    refine lv_iload hx hb dHi_countOf_19 (lv_at hl 5 rfl) ?_
    refine lv_iadd hx hb dHi_countOf_21 ?_
    refine lv_bipush hx hb dHi_countOf_22 (v := (12 : Int32)) rfl ?_
    refine lv_irem hx hb dHi_countOf_24 (by decide) ?_
    refine lv_istore (lv' := [(6, .int ((v6 + i2) - (v6 + i2) / (12 : Int32) * (12 : Int32))), (0, .ref t0), (1, .int t1), (2, .int t2), (3, .int t3), (4, .int i1), (5, .int i2)]) hx hb dHi_countOf_25 hl (Nat.le_of_ble_eq_true rfl) (by first | rfl | (simp [List.filter, rf_cat] <;> rfl)) (fun ls hl => ?_)
    refine lv_aload_n hx hb dHi_countOf_27 rfl (lv_at hl 1 rfl) ?_
    replace h := ob h; obtain ⟨r7, er7, h⟩ := h
    refine hq_get hx hb hts hown hW (gR_V er7) (F_Hi_15 hts) dHi_countOf_28 ?_
    refine lv_iload hx hb dHi_countOf_31 (lv_at hl 0 rfl) ?_
    replace h := ob h; obtain ⟨a8, hra8, h⟩ := h
    subst hra8
    replace h := ob h; obtain ⟨v9, ev9, h⟩ := h
    refine hq_iald hx hb hW ev9 rfl dHi_countOf_33 ?_
    refine lv_iload_n hx hb dHi_countOf_34 rfl (lv_at hl 2 rfl) ?_
    refine lv_icmp_ne hx hb dHi_countOf_35 (tgt := 63) rfl (fun hc18 => ?_) (fun hc18 => ?_)
    · replace h := if_f hc18 h
      refine lv_iinc (k := 6) (v := i2 + 1) (lv' := [(5, .int (i2 + 1)), (6, .int ((v6 + i2) - (v6 + i2) / (12 : Int32) * (12 : Int32))), (0, .ref t0), (1, .int t1), (2, .int t2), (3, .int t3), (4, .int i1)]) hx hb dHi_countOf_63 hl rfl rfl (Nat.le_of_ble_eq_true rfl) (by first | rfl | (simp [List.filter, rf_cat] <;> rfl)) (fun ls hl => ?_)
      refine lv_goto hx hb dHi_countOf_66 (tgt := 6) rfl ?_
      exact hin _ (Option.some.inj h).symm _ _ _ (lv_sub hl [2, 3, 4, 5, 6, 0] rfl) hW
    · replace h := if_t hc18 h
      refine lv_aload_n hx hb dHi_countOf_38 rfl (lv_at hl 1 rfl) ?_
      replace h := ob h; obtain ⟨r10, er10, h⟩ := h
      refine hq_get hx hb hts hown hW (gR_V er10) (F_Hi_9 hts) dHi_countOf_39 ?_
      refine lv_iload hx hb dHi_countOf_42 (lv_at hl 0 rfl) ?_
      replace h := ob h; obtain ⟨a11, hra11, h⟩ := h
      subst hra11
      replace h := ob h; obtain ⟨v12, ev12, h⟩ := h
      refine hq_iald hx hb hW ev12 rfl dHi_countOf_44 ?_
      refine lv_iload_n hx hb dHi_countOf_45 rfl (lv_at hl 3 rfl) ?_
      refine lv_icmp_lt hx hb dHi_countOf_46 (tgt := 63) rfl (fun hc17 => ?_) (fun hc17 => ?_)
      · replace h := if_t hc17 h
        refine lv_iinc (k := 6) (v := i2 + 1) (lv' := [(5, .int (i2 + 1)), (6, .int ((v6 + i2) - (v6 + i2) / (12 : Int32) * (12 : Int32))), (0, .ref t0), (1, .int t1), (2, .int t2), (3, .int t3), (4, .int i1)]) hx hb dHi_countOf_63 hl rfl rfl (Nat.le_of_ble_eq_true rfl) (by first | rfl | (simp [List.filter, rf_cat] <;> rfl)) (fun ls hl => ?_)
        refine lv_goto hx hb dHi_countOf_66 (tgt := 6) rfl ?_
        exact hin _ (Option.some.inj h).symm _ _ _ (lv_sub hl [2, 3, 4, 5, 6, 0] rfl) hW
      · replace h := if_f hc17 h
        refine lv_aload_n hx hb dHi_countOf_49 rfl (lv_at hl 1 rfl) ?_
        replace h := ob h; obtain ⟨r13, er13, h⟩ := h
        refine hq_get hx hb hts hown hW (gR_V er13) (F_Hi_9 hts) dHi_countOf_50 ?_
        refine lv_iload hx hb dHi_countOf_53 (lv_at hl 0 rfl) ?_
        replace h := ob h; obtain ⟨a14, hra14, h⟩ := h
        subst hra14
        replace h := ob h; obtain ⟨v15, ev15, h⟩ := h
        refine hq_iald hx hb hW ev15 rfl dHi_countOf_55 ?_
        refine lv_iload_n hx hb dHi_countOf_56 rfl (lv_at hl 4 rfl) ?_
        refine lv_icmp_gt hx hb dHi_countOf_57 (tgt := 63) rfl (fun hc16 => ?_) (fun hc16 => ?_)
        · replace h := if_t hc16 h
          refine lv_iinc (k := 6) (v := i2 + 1) (lv' := [(5, .int (i2 + 1)), (6, .int ((v6 + i2) - (v6 + i2) / (12 : Int32) * (12 : Int32))), (0, .ref t0), (1, .int t1), (2, .int t2), (3, .int t3), (4, .int i1)]) hx hb dHi_countOf_63 hl rfl rfl (Nat.le_of_ble_eq_true rfl) (by first | rfl | (simp [List.filter, rf_cat] <;> rfl)) (fun ls hl => ?_)
          refine lv_goto hx hb dHi_countOf_66 (tgt := 6) rfl ?_
          exact hin _ (Option.some.inj h).symm _ _ _ (lv_sub hl [2, 3, 4, 5, 6, 0] rfl) hW
        · replace h := if_f hc16 h
          refine lv_iinc (k := 5) (v := i1 + 1) (lv' := [(4, .int (i1 + 1)), (6, .int ((v6 + i2) - (v6 + i2) / (12 : Int32) * (12 : Int32))), (0, .ref t0), (1, .int t1), (2, .int t2), (3, .int t3), (5, .int i2)]) hx hb dHi_countOf_60 hl rfl rfl (Nat.le_of_ble_eq_true rfl) (by first | rfl | (simp [List.filter, rf_cat] <;> rfl)) (fun ls hl => ?_)
          refine lv_iinc (k := 6) (v := i2 + 1) (lv' := [(5, .int (i2 + 1)), (4, .int (i1 + 1)), (6, .int ((v6 + i2) - (v6 + i2) / (12 : Int32) * (12 : Int32))), (0, .ref t0), (1, .int t1), (2, .int t2), (3, .int t3)]) hx hb dHi_countOf_63 hl rfl rfl (Nat.le_of_ble_eq_true rfl) (by first | rfl | (simp [List.filter, rf_cat] <;> rfl)) (fun ls hl => ?_)
          refine lv_goto hx hb dHi_countOf_66 (tgt := 6) rfl ?_
          exact hin _ (Option.some.inj h).symm _ _ _ (lv_sub hl [3, 4, 5, 6, 1, 0] rfl) hW
