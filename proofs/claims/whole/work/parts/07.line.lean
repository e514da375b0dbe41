theorem dWa_init_0 : decode cWa_init 0 = .ok (.aload_n 0, 1) := by decide +kernel
theorem dWa_init_1 : decode cWa_init 1 = .ok (.invokespecial 1, 3) := by decide +kernel
theorem dWa_init_4 : decode cWa_init 4 = .ok (.aload_n 0, 1) := by decide +kernel
theorem dWa_init_5 : decode cWa_init 5 = .ok (.new 7, 3) := by decide +kernel
theorem dWa_init_8 : decode cWa_init 8 = .ok (.dup, 1) := by decide +kernel
theorem dWa_init_9 : decode cWa_init 9 = .ok (.invokespecial 9, 3) := by decide +kernel
theorem dWa_init_12 : decode cWa_init 12 = .ok (.putfield 10, 3) := by decide +kernel
theorem dWa_init_15 : decode cWa_init 15 = .ok (.return_, 1) := by decide +kernel
theorem dLi_init_0 : decode cLi_init 0 = .ok (.aload_n 0, 1) := by decide +kernel
theorem dLi_init_1 : decode cLi_init 1 = .ok (.invokespecial 3, 3) := by decide +kernel
theorem dLi_init_4 : decode cLi_init 4 = .ok (.aload_n 0, 1) := by decide +kernel
theorem dLi_init_5 : decode cLi_init 5 = .ok (.new 9, 3) := by decide +kernel
theorem dLi_init_8 : decode cLi_init 8 = .ok (.dup, 1) := by decide +kernel
theorem dLi_init_9 : decode cLi_init 9 = .ok (.invokespecial 11, 3) := by decide +kernel
theorem dLi_init_12 : decode cLi_init 12 = .ok (.putfield 12, 3) := by decide +kernel
theorem dLi_init_15 : decode cLi_init 15 = .ok (.aload_n 0, 1) := by decide +kernel
theorem dLi_init_16 : decode cLi_init 16 = .ok (.new 9, 3) := by decide +kernel
theorem dLi_init_19 : decode cLi_init 19 = .ok (.dup, 1) := by decide +kernel
theorem dLi_init_20 : decode cLi_init 20 = .ok (.invokespecial 11, 3) := by decide +kernel
theorem dLi_init_23 : decode cLi_init 23 = .ok (.putfield 18, 3) := by decide +kernel
theorem dLi_init_26 : decode cLi_init 26 = .ok (.aload_n 0, 1) := by decide +kernel
theorem dLi_init_27 : decode cLi_init 27 = .ok (.iconst 4, 1) := by decide +kernel
theorem dLi_init_28 : decode cLi_init 28 = .ok (.anewarray 21, 3) := by decide +kernel
theorem dLi_init_31 : decode cLi_init 31 = .ok (.putfield 23, 3) := by decide +kernel
theorem dLi_init_34 : decode cLi_init 34 = .ok (.aload_n 0, 1) := by decide +kernel
theorem dLi_init_35 : decode cLi_init 35 = .ok (.iconst (-1), 1) := by decide +kernel
theorem dLi_init_36 : decode cLi_init 36 = .ok (.putfield 27, 3) := by decide +kernel
theorem dLi_init_39 : decode cLi_init 39 = .ok (.aload_n 0, 1) := by decide +kernel
theorem dLi_init_40 : decode cLi_init 40 = .ok (.iload_n 1, 1) := by decide +kernel
theorem dLi_init_41 : decode cLi_init 41 = .ok (.putfield 31, 3) := by decide +kernel
theorem dLi_init_44 : decode cLi_init 44 = .ok (.return_, 1) := by decide +kernel
theorem dLi_enqueue_0 : decode cLi_enqueue 0 = .ok (.aload_n 0, 1) := by decide +kernel
theorem dLi_enqueue_1 : decode cLi_enqueue 1 = .ok (.getfield 34, 3) := by decide +kernel
theorem dLi_enqueue_4 : decode cLi_enqueue 4 = .ok (.iconst 4, 1) := by decide +kernel
theorem dLi_enqueue_5 : decode cLi_enqueue 5 = .ok (.if_icmp .lt 5, 3) := by decide +kernel
theorem dLi_enqueue_8 : decode cLi_enqueue 8 = .ok (.iconst 0, 1) := by decide +kernel
theorem dLi_enqueue_9 : decode cLi_enqueue 9 = .ok (.ireturn, 1) := by decide +kernel
theorem dLi_enqueue_10 : decode cLi_enqueue 10 = .ok (.aload_n 0, 1) := by decide +kernel
theorem dLi_enqueue_11 : decode cLi_enqueue 11 = .ok (.getfield 23, 3) := by decide +kernel
theorem dLi_enqueue_14 : decode cLi_enqueue 14 = .ok (.aload_n 0, 1) := by decide +kernel
theorem dLi_enqueue_15 : decode cLi_enqueue 15 = .ok (.getfield 34, 3) := by decide +kernel
theorem dLi_enqueue_18 : decode cLi_enqueue 18 = .ok (.aload_n 1, 1) := by decide +kernel
theorem dLi_enqueue_19 : decode cLi_enqueue 19 = .ok (.aastore, 1) := by decide +kernel
theorem dLi_enqueue_20 : decode cLi_enqueue 20 = .ok (.aload_n 0, 1) := by decide +kernel
theorem dLi_enqueue_21 : decode cLi_enqueue 21 = .ok (.dup, 1) := by decide +kernel
theorem dLi_enqueue_22 : decode cLi_enqueue 22 = .ok (.getfield 34, 3) := by decide +kernel
theorem dLi_enqueue_25 : decode cLi_enqueue 25 = .ok (.iconst 1, 1) := by decide +kernel
theorem dLi_enqueue_26 : decode cLi_enqueue 26 = .ok (.iadd, 1) := by decide +kernel
theorem dLi_enqueue_27 : decode cLi_enqueue 27 = .ok (.putfield 34, 3) := by decide +kernel
theorem dLi_enqueue_30 : decode cLi_enqueue 30 = .ok (.iconst 1, 1) := by decide +kernel
theorem dLi_enqueue_31 : decode cLi_enqueue 31 = .ok (.ireturn, 1) := by decide +kernel
theorem dLi_wayOf_0 : decode cLi_wayOf 0 = .ok (.iload_n 1, 1) := by decide +kernel
theorem dLi_wayOf_1 : decode cLi_wayOf 1 = .ok (.ifCond .eq 10, 3) := by decide +kernel
theorem dLi_wayOf_4 : decode cLi_wayOf 4 = .ok (.aload_n 0, 1) := by decide +kernel
theorem dLi_wayOf_5 : decode cLi_wayOf 5 = .ok (.getfield 18, 3) := by decide +kernel
theorem dLi_wayOf_8 : decode cLi_wayOf 8 = .ok (.goto 7, 3) := by decide +kernel
theorem dLi_wayOf_11 : decode cLi_wayOf 11 = .ok (.aload_n 0, 1) := by decide +kernel
theorem dLi_wayOf_12 : decode cLi_wayOf 12 = .ok (.getfield 12, 3) := by decide +kernel
theorem dLi_wayOf_15 : decode cLi_wayOf 15 = .ok (.areturn, 1) := by decide +kernel
theorem dWa_plantFault_0 : decode cWa_plantFault 0 = .ok (.aload_n 0, 1) := by decide +kernel
theorem dWa_plantFault_1 : decode cWa_plantFault 1 = .ok (.getfield 16, 3) := by decide +kernel
theorem dWa_plantFault_4 : decode cWa_plantFault 4 = .ok (.ifCond .eq 5, 3) := by decide +kernel
theorem dWa_plantFault_7 : decode cWa_plantFault 7 = .ok (.iconst 0, 1) := by decide +kernel
theorem dWa_plantFault_8 : decode cWa_plantFault 8 = .ok (.ireturn, 1) := by decide +kernel
theorem dWa_plantFault_9 : decode cWa_plantFault 9 = .ok (.aload_n 0, 1) := by decide +kernel
theorem dWa_plantFault_10 : decode cWa_plantFault 10 = .ok (.iconst 1, 1) := by decide +kernel
theorem dWa_plantFault_11 : decode cWa_plantFault 11 = .ok (.putfield 16, 3) := by decide +kernel
theorem dWa_plantFault_14 : decode cWa_plantFault 14 = .ok (.iconst 1, 1) := by decide +kernel
theorem dWa_plantFault_15 : decode cWa_plantFault 15 = .ok (.ireturn, 1) := by decide +kernel
theorem dLi_has_0 : decode cLi_has 0 = .ok (.iconst 0, 1) := by decide +kernel
theorem dLi_has_1 : decode cLi_has 1 = .ok (.istore_n 2, 1) := by decide +kernel
theorem dLi_has_2 : decode cLi_has 2 = .ok (.iload_n 2, 1) := by decide +kernel
theorem dLi_has_3 : decode cLi_has 3 = .ok (.aload_n 0, 1) := by decide +kernel
theorem dLi_has_4 : decode cLi_has 4 = .ok (.getfield 34, 3) := by decide +kernel
theorem dLi_has_7 : decode cLi_has 7 = .ok (.if_icmp .ge 26, 3) := by decide +kernel
theorem dLi_has_10 : decode cLi_has 10 = .ok (.iload_n 2, 1) := by decide +kernel
theorem dLi_has_11 : decode cLi_has 11 = .ok (.iconst 4, 1) := by decide +kernel
theorem dLi_has_12 : decode cLi_has 12 = .ok (.if_icmp .ge 21, 3) := by decide +kernel
theorem dLi_has_15 : decode cLi_has 15 = .ok (.aload_n 0, 1) := by decide +kernel
theorem dLi_has_16 : decode cLi_has 16 = .ok (.getfield 23, 3) := by decide +kernel
theorem dLi_has_19 : decode cLi_has 19 = .ok (.iload_n 2, 1) := by decide +kernel
theorem dLi_has_20 : decode cLi_has 20 = .ok (.aaload, 1) := by decide +kernel
theorem dLi_has_21 : decode cLi_has 21 = .ok (.aload_n 1, 1) := by decide +kernel
theorem dLi_has_22 : decode cLi_has 22 = .ok (.if_acmp .ne 5, 3) := by decide +kernel
theorem dLi_has_25 : decode cLi_has 25 = .ok (.iconst 1, 1) := by decide +kernel
theorem dLi_has_26 : decode cLi_has 26 = .ok (.ireturn, 1) := by decide +kernel
theorem dLi_has_27 : decode cLi_has 27 = .ok (.iinc 2 1, 3) := by decide +kernel
theorem dLi_has_30 : decode cLi_has 30 = .ok (.goto (-28), 3) := by decide +kernel
theorem dLi_has_33 : decode cLi_has 33 = .ok (.aload_n 0, 1) := by decide +kernel
theorem dLi_has_34 : decode cLi_has 34 = .ok (.getfield 37, 3) := by decide +kernel
theorem dLi_has_37 : decode cLi_has 37 = .ok (.aload_n 1, 1) := by decide +kernel
theorem dLi_has_38 : decode cLi_has 38 = .ok (.if_acmp .ne 7, 3) := by decide +kernel
theorem dLi_has_41 : decode cLi_has 41 = .ok (.iconst 1, 1) := by decide +kernel
theorem dLi_has_42 : decode cLi_has 42 = .ok (.goto 4, 3) := by decide +kernel
theorem dLi_has_45 : decode cLi_has 45 = .ok (.iconst 0, 1) := by decide +kernel
theorem dLi_has_46 : decode cLi_has 46 = .ok (.ireturn, 1) := by decide +kernel
theorem dLi_release_0 : decode cLi_release 0 = .ok (.aload_n 0, 1) := by decide +kernel
theorem dLi_release_1 : decode cLi_release 1 = .ok (.aconst_null, 1) := by decide +kernel
theorem dLi_release_2 : decode cLi_release 2 = .ok (.putfield 37, 3) := by decide +kernel
theorem dLi_release_5 : decode cLi_release 5 = .ok (.aload_n 0, 1) := by decide +kernel
theorem dLi_release_6 : decode cLi_release 6 = .ok (.iconst 0, 1) := by decide +kernel
theorem dLi_release_7 : decode cLi_release 7 = .ok (.putfield 41, 3) := by decide +kernel
theorem dLi_release_10 : decode cLi_release 10 = .ok (.aload_n 0, 1) := by decide +kernel
theorem dLi_release_11 : decode cLi_release 11 = .ok (.iconst (-1), 1) := by decide +kernel
theorem dLi_release_12 : decode cLi_release 12 = .ok (.putfield 27, 3) := by decide +kernel
theorem dLi_release_15 : decode cLi_release 15 = .ok (.return_, 1) := by decide +kernel
theorem dLi_isOverdue_0 : decode cLi_isOverdue 0 = .ok (.aload_n 0, 1) := by decide +kernel
theorem dLi_isOverdue_1 : decode cLi_isOverdue 1 = .ok (.getfield 37, 3) := by decide +kernel
theorem dLi_isOverdue_4 : decode cLi_isOverdue 4 = .ok (.ifnonnull 5, 3) := by decide +kernel
theorem dLi_isOverdue_7 : decode cLi_isOverdue 7 = .ok (.iconst 0, 1) := by decide +kernel
theorem dLi_isOverdue_8 : decode cLi_isOverdue 8 = .ok (.ireturn, 1) := by decide +kernel
theorem dLi_isOverdue_9 : decode cLi_isOverdue 9 = .ok (.aload_n 0, 1) := by decide +kernel
theorem dLi_isOverdue_10 : decode cLi_isOverdue 10 = .ok (.getfield 37, 3) := by decide +kernel
theorem dLi_isOverdue_13 : decode cLi_isOverdue 13 = .ok (.invokevirtual 47, 3) := by decide +kernel
theorem dLi_isOverdue_16 : decode cLi_isOverdue 16 = .ok (.ifCond .eq 7, 3) := by decide +kernel
theorem dLi_isOverdue_19 : decode cLi_isOverdue 19 = .ok (.iconst 2, 1) := by decide +kernel
theorem dLi_isOverdue_20 : decode cLi_isOverdue 20 = .ok (.goto 4, 3) := by decide +kernel
theorem dLi_isOverdue_23 : decode cLi_isOverdue 23 = .ok (.iconst 3, 1) := by decide +kernel
theorem dLi_isOverdue_24 : decode cLi_isOverdue 24 = .ok (.istore_n 2, 1) := by decide +kernel
theorem dLi_isOverdue_25 : decode cLi_isOverdue 25 = .ok (.iload_n 1, 1) := by decide +kernel
theorem dLi_isOverdue_26 : decode cLi_isOverdue 26 = .ok (.aload_n 0, 1) := by decide +kernel
theorem dLi_isOverdue_27 : decode cLi_isOverdue 27 = .ok (.getfield 44, 3) := by decide +kernel
theorem dLi_isOverdue_30 : decode cLi_isOverdue 30 = .ok (.isub, 1) := by decide +kernel
theorem dLi_isOverdue_31 : decode cLi_isOverdue 31 = .ok (.iload_n 2, 1) := by decide +kernel
theorem dLi_isOverdue_32 : decode cLi_isOverdue 32 = .ok (.if_icmp .lt 7, 3) := by decide +kernel
theorem dLi_isOverdue_35 : decode cLi_isOverdue 35 = .ok (.iconst 1, 1) := by decide +kernel
theorem dLi_isOverdue_36 : decode cLi_isOverdue 36 = .ok (.goto 4, 3) := by decide +kernel
theorem dLi_isOverdue_39 : decode cLi_isOverdue 39 = .ok (.iconst 0, 1) := by decide +kernel
theorem dLi_isOverdue_40 : decode cLi_isOverdue 40 = .ok (.ireturn, 1) := by decide +kernel
theorem dLi_maySendAgain_0 : decode cLi_maySendAgain 0 = .ok (.aload_n 0, 1) := by decide +kernel
theorem dLi_maySendAgain_1 : decode cLi_maySendAgain 1 = .ok (.getfield 37, 3) := by decide +kernel
theorem dLi_maySendAgain_4 : decode cLi_maySendAgain 4 = .ok (.ifnull 25, 3) := by decide +kernel
theorem dLi_maySendAgain_7 : decode cLi_maySendAgain 7 = .ok (.aload_n 0, 1) := by decide +kernel
theorem dLi_maySendAgain_8 : decode cLi_maySendAgain 8 = .ok (.getfield 37, 3) := by decide +kernel
theorem dLi_maySendAgain_11 : decode cLi_maySendAgain 11 = .ok (.invokevirtual 47, 3) := by decide +kernel
theorem dLi_maySendAgain_14 : decode cLi_maySendAgain 14 = .ok (.ifCond .ne 15, 3) := by decide +kernel
theorem dLi_maySendAgain_17 : decode cLi_maySendAgain 17 = .ok (.aload_n 0, 1) := by decide +kernel
theorem dLi_maySendAgain_18 : decode cLi_maySendAgain 18 = .ok (.getfield 41, 3) := by decide +kernel
theorem dLi_maySendAgain_21 : decode cLi_maySendAgain 21 = .ok (.iconst 3, 1) := by decide +kernel
theorem dLi_maySendAgain_22 : decode cLi_maySendAgain 22 = .ok (.if_icmp .ge 7, 3) := by decide +kernel
theorem dLi_maySendAgain_25 : decode cLi_maySendAgain 25 = .ok (.iconst 1, 1) := by decide +kernel
theorem dLi_maySendAgain_26 : decode cLi_maySendAgain 26 = .ok (.goto 4, 3) := by decide +kernel
theorem dLi_maySendAgain_29 : decode cLi_maySendAgain 29 = .ok (.iconst 0, 1) := by decide +kernel
theorem dLi_maySendAgain_30 : decode cLi_maySendAgain 30 = .ok (.ireturn, 1) := by decide +kernel
theorem dLi_markSending_0 : decode cLi_markSending 0 = .ok (.aload_n 0, 1) := by decide +kernel
theorem dLi_markSending_1 : decode cLi_markSending 1 = .ok (.dup, 1) := by decide +kernel
theorem dLi_markSending_2 : decode cLi_markSending 2 = .ok (.getfield 41, 3) := by decide +kernel
theorem dLi_markSending_5 : decode cLi_markSending 5 = .ok (.iconst 1, 1) := by decide +kernel
theorem dLi_markSending_6 : decode cLi_markSending 6 = .ok (.iadd, 1) := by decide +kernel
theorem dLi_markSending_7 : decode cLi_markSending 7 = .ok (.putfield 41, 3) := by decide +kernel
theorem dLi_markSending_10 : decode cLi_markSending 10 = .ok (.aload_n 0, 1) := by decide +kernel
theorem dLi_markSending_11 : decode cLi_markSending 11 = .ok (.iload_n 1, 1) := by decide +kernel
theorem dLi_markSending_12 : decode cLi_markSending 12 = .ok (.putfield 44, 3) := by decide +kernel
theorem dLi_markSending_15 : decode cLi_markSending 15 = .ok (.aload_n 0, 1) := by decide +kernel
theorem dLi_markSending_16 : decode cLi_markSending 16 = .ok (.iconst (-1), 1) := by decide +kernel
theorem dLi_markSending_17 : decode cLi_markSending 17 = .ok (.putfield 27, 3) := by decide +kernel
theorem dLi_markSending_20 : decode cLi_markSending 20 = .ok (.return_, 1) := by decide +kernel
theorem dWa_spendFault_0 : decode cWa_spendFault 0 = .ok (.aload_n 0, 1) := by decide +kernel
theorem dWa_spendFault_1 : decode cWa_spendFault 1 = .ok (.getfield 16, 3) := by decide +kernel
theorem dWa_spendFault_4 : decode cWa_spendFault 4 = .ok (.istore_n 1, 1) := by decide +kernel
theorem dWa_spendFault_5 : decode cWa_spendFault 5 = .ok (.aload_n 0, 1) := by decide +kernel
theorem dWa_spendFault_6 : decode cWa_spendFault 6 = .ok (.iconst 0, 1) := by decide +kernel
theorem dWa_spendFault_7 : decode cWa_spendFault 7 = .ok (.putfield 16, 3) := by decide +kernel
theorem dWa_spendFault_10 : decode cWa_spendFault 10 = .ok (.iload_n 1, 1) := by decide +kernel
theorem dWa_spendFault_11 : decode cWa_spendFault 11 = .ok (.ireturn, 1) := by decide +kernel
theorem dLi_giveUp_0 : decode cLi_giveUp 0 = .ok (.aload_n 0, 1) := by decide +kernel
theorem dLi_giveUp_1 : decode cLi_giveUp 1 = .ok (.getfield 37, 3) := by decide +kernel
theorem dLi_giveUp_4 : decode cLi_giveUp 4 = .ok (.astore_n 1, 1) := by decide +kernel
theorem dLi_giveUp_5 : decode cLi_giveUp 5 = .ok (.aload_n 0, 1) := by decide +kernel
theorem dLi_giveUp_6 : decode cLi_giveUp 6 = .ok (.invokevirtual 51, 3) := by decide +kernel
theorem dLi_giveUp_9 : decode cLi_giveUp 9 = .ok (.aload_n 1, 1) := by decide +kernel
theorem dLi_giveUp_10 : decode cLi_giveUp 10 = .ok (.ifnull 14, 3) := by decide +kernel
theorem dLi_giveUp_13 : decode cLi_giveUp 13 = .ok (.aload_n 1, 1) := by decide +kernel
theorem dLi_giveUp_14 : decode cLi_giveUp 14 = .ok (.invokevirtual 47, 3) := by decide +kernel
theorem dLi_giveUp_17 : decode cLi_giveUp 17 = .ok (.ifCond .ne 7, 3) := by decide +kernel
theorem dLi_giveUp_20 : decode cLi_giveUp 20 = .ok (.aload_n 1, 1) := by decide +kernel
theorem dLi_giveUp_21 : decode cLi_giveUp 21 = .ok (.invokevirtual 54, 3) := by decide +kernel
theorem dLi_giveUp_24 : decode cLi_giveUp 24 = .ok (.return_, 1) := by decide +kernel
theorem dLi_startNext_0 : decode cLi_startNext 0 = .ok (.aload_n 0, 1) := by decide +kernel
theorem dLi_startNext_1 : decode cLi_startNext 1 = .ok (.getfield 37, 3) := by decide +kernel
theorem dLi_startNext_4 : decode cLi_startNext 4 = .ok (.ifnonnull 10, 3) := by decide +kernel
theorem dLi_startNext_7 : decode cLi_startNext 7 = .ok (.aload_n 0, 1) := by decide +kernel
theorem dLi_startNext_8 : decode cLi_startNext 8 = .ok (.getfield 34, 3) := by decide +kernel
theorem dLi_startNext_11 : decode cLi_startNext 11 = .ok (.ifCond .ne 5, 3) := by decide +kernel
theorem dLi_startNext_14 : decode cLi_startNext 14 = .ok (.iconst 0, 1) := by decide +kernel
theorem dLi_startNext_15 : decode cLi_startNext 15 = .ok (.ireturn, 1) := by decide +kernel
theorem dLi_startNext_16 : decode cLi_startNext 16 = .ok (.aload_n 0, 1) := by decide +kernel
theorem dLi_startNext_17 : decode cLi_startNext 17 = .ok (.aload_n 0, 1) := by decide +kernel
theorem dLi_startNext_18 : decode cLi_startNext 18 = .ok (.getfield 23, 3) := by decide +kernel
theorem dLi_startNext_21 : decode cLi_startNext 21 = .ok (.iconst 0, 1) := by decide +kernel
theorem dLi_startNext_22 : decode cLi_startNext 22 = .ok (.aaload, 1) := by decide +kernel
theorem dLi_startNext_23 : decode cLi_startNext 23 = .ok (.putfield 37, 3) := by decide +kernel
theorem dLi_startNext_26 : decode cLi_startNext 26 = .ok (.aload_n 0, 1) := by decide +kernel
theorem dLi_startNext_27 : decode cLi_startNext 27 = .ok (.dup, 1) := by decide +kernel
theorem dLi_startNext_28 : decode cLi_startNext 28 = .ok (.getfield 34, 3) := by decide +kernel
theorem dLi_startNext_31 : decode cLi_startNext 31 = .ok (.iconst 1, 1) := by decide +kernel
theorem dLi_startNext_32 : decode cLi_startNext 32 = .ok (.isub, 1) := by decide +kernel
theorem dLi_startNext_33 : decode cLi_startNext 33 = .ok (.putfield 34, 3) := by decide +kernel
theorem dLi_startNext_36 : decode cLi_startNext 36 = .ok (.iconst 0, 1) := by decide +kernel
theorem dLi_startNext_37 : decode cLi_startNext 37 = .ok (.istore_n 1, 1) := by decide +kernel
theorem dLi_startNext_38 : decode cLi_startNext 38 = .ok (.iload_n 1, 1) := by decide +kernel
theorem dLi_startNext_39 : decode cLi_startNext 39 = .ok (.aload_n 0, 1) := by decide +kernel
theorem dLi_startNext_40 : decode cLi_startNext 40 = .ok (.getfield 34, 3) := by decide +kernel
theorem dLi_startNext_43 : decode cLi_startNext 43 = .ok (.if_icmp .ge 30, 3) := by decide +kernel
theorem dLi_startNext_46 : decode cLi_startNext 46 = .ok (.iload_n 1, 1) := by decide +kernel
theorem dLi_startNext_47 : decode cLi_startNext 47 = .ok (.iconst 1, 1) := by decide +kernel
theorem dLi_startNext_48 : decode cLi_startNext 48 = .ok (.iadd, 1) := by decide +kernel
theorem dLi_startNext_49 : decode cLi_startNext 49 = .ok (.iconst 4, 1) := by decide +kernel
theorem dLi_startNext_50 : decode cLi_startNext 50 = .ok (.if_icmp .ge 23, 3) := by decide +kernel
theorem dLi_startNext_53 : decode cLi_startNext 53 = .ok (.aload_n 0, 1) := by decide +kernel
theorem dLi_startNext_54 : decode cLi_startNext 54 = .ok (.getfield 23, 3) := by decide +kernel
theorem dLi_startNext_57 : decode cLi_startNext 57 = .ok (.iload_n 1, 1) := by decide +kernel
theorem dLi_startNext_58 : decode cLi_startNext 58 = .ok (.aload_n 0, 1) := by decide +kernel
theorem dLi_startNext_59 : decode cLi_startNext 59 = .ok (.getfield 23, 3) := by decide +kernel
theorem dLi_startNext_62 : decode cLi_startNext 62 = .ok (.iload_n 1, 1) := by decide +kernel
theorem dLi_startNext_63 : decode cLi_startNext 63 = .ok (.iconst 1, 1) := by decide +kernel
theorem dLi_startNext_64 : decode cLi_startNext 64 = .ok (.iadd, 1) := by decide +kernel
theorem dLi_startNext_65 : decode cLi_startNext 65 = .ok (.aaload, 1) := by decide +kernel
theorem dLi_startNext_66 : decode cLi_startNext 66 = .ok (.aastore, 1) := by decide +kernel
theorem dLi_startNext_67 : decode cLi_startNext 67 = .ok (.iinc 1 1, 3) := by decide +kernel
theorem dLi_startNext_70 : decode cLi_startNext 70 = .ok (.goto (-32), 3) := by decide +kernel
theorem dLi_startNext_73 : decode cLi_startNext 73 = .ok (.iconst 1, 1) := by decide +kernel
theorem dLi_startNext_74 : decode cLi_startNext 74 = .ok (.ireturn, 1) := by decide +kernel
def fWa_init (t0 : Nat) (S : Ws) : Option (Ws) :=
  (fFr_init S.1 (S.add (.inr (0, [.null, .int 0])))).bind fun S1 => (pV S1 t0 [6] 0 (.ref S.1)).bind fun S2 => some S2
set_option maxRecDepth 100000 in
set_option maxHeartbeats 4000000 in
theorem kWa_init (l : Launch) (D : va_G) (tc : Nat → ClassId) (b : Nat) (t0 : Nat) (S Sz : Ws) (h : fWa_init t0 S = some Sz) : Met l yWa_init wsWa_init { frames := 2, cells := 2, slots := 43, locals := 80 } (va_Pc [.ref t0] (Wp D vwCl (hTy tc) b S)) (va_Qv (fun _ : Unit => True) (fun _ => Wp D vwCl (hTy tc) b Sz) (fun q => b ≤ q)) 2 43 (fun q => b ≤ q) := by
  refine hq_ofW (cc := cWa_init) (maxL := 1) (ret := none) (by decide) rfl (Nat.le_of_ble_eq_true rfl) fun p e s m args below meth c hx hb hr hts hown hlocks hnm hml H locs ls hl hW => ?_
  have hts : ∀ w ∈ lwG, w.before args s = true := fun w h => hts w (List.mem_cons_of_mem _ h)
  have hown : s.vm.findClass "SerialPlant$Way" = some m.cls := hown
  have hl : lv_has ls 1 [(0, .ref t0)] := hl
  unfold fWa_init at h
  refine lv_aload_n hx hb dWa_init_0 rfl (lv_at hl 0 rfl) ?_
  refine W.objInit hx hb hown (hts _ w_69) (hts _ w_17) (hts _ w_oi) rfl (by rw [hml]; exact hl.1) rfl dWa_init_1 (Nat.le_of_ble_eq_true rfl) (Nat.le_of_ble_eq_true rfl) ?_
  refine W.eq (g2 := F0 m 4 ls []) rfl ?_
  refine lv_aload_n hx hb dWa_init_4 rfl (lv_at hl 0 rfl) ?_
  refine hq_new (ci := 0) (fs := [.null, .int 0]) (C := "SerialPlant$Frame") (T := TFr) (N := 2) (ce := 1) (sl := 2) hx hb hts inFr tyFr tyFr_ok hown (hts _ w_70) (hts _ w_71) (hts _ w_5) hW rfl dfFr rfl rfl (Nat.le_of_ble_eq_true rfl) (Nat.le_of_ble_eq_true rfl) dWa_init_5 (fun H hW => ?_)
  refine lv_dup hx hb dWa_init_8 rfl ?_
  replace h := ob h; obtain ⟨S1, eS1, h⟩ := h
  refine hq_callv (ce := 2) (sl := 43) (va_runIN (As := []) (rest := [.ref S.1, .ref t0]) ⟨hx, hb, hml, hown, hts⟩ (kFr_init l D tc b S.1 (S.add (.inr (0, [.null, .int 0]))) _ eS1) ⟨va_cnB 0 hts G0_Fr_init rfl rfl rfl hW.nw.1.2.1 (hts _ w_5) hd_Fr_init_I ⟨Nat.le_of_ble_eq_true rfl, Nat.le_of_ble_eq_true rfl⟩, rfl, hts _ w_73⟩ (hq_preS hW) rfl rfl hl.1 rfl (lv_room (by first | exact Nat.le_of_ble_eq_true rfl | (simp only [List.map, rf_cat]; exact Nat.le_of_ble_eq_true rfl))) dWa_init_9 ⟨Nat.le_of_ble_eq_true rfl, Nat.le_of_ble_eq_true rfl⟩) hW rfl rfl (fun H locs hW => ?_)
  replace h := ob h; obtain ⟨S2, eS2, h⟩ := h
  refine hq_put hx hb hts hown hW eS2 (F_Wa_10 hts) (P_Wa_Wa_0 hnm) rfl rfl dWa_init_12 (fun H locs hW => ?_)
  exact hq_vret hx hb hr hlocks h (Nat.le_of_ble_eq_true rfl) (Nat.le_of_ble_eq_true rfl) hW dWa_init_15
def fLi_init (t0 : Nat) (t1 : Int32) (S : Ws) : Option (Ws) :=
  (fWa_init S.1 (S.add (.inr (6, [.null, .int 0])))).bind fun S1 => (pV S1 t0 [2] 1 (.ref S.1)).bind fun S2 => (fWa_init S2.1 (S2.add (.inr (6, [.null, .int 0])))).bind fun S3 => (pV S3 t0 [2] 2 (.ref S2.1)).bind fun S4 => (pV (S4.add (.inl (7, 4, .inr (.inr (fun _ => none))))) t0 [2] 3 (.ref S4.1)).bind fun S5 => (pV S5 t0 [2] 8 (.int (-1 : Int32))).bind fun S6 => (pV S6 t0 [2] 0 (.int t1)).bind fun S7 => some S7
set_option maxRecDepth 100000 in
set_option maxHeartbeats 4000000 in
theorem kLi_init (l : Launch) (D : va_G) (tc : Nat → ClassId) (b : Nat) (t0 : Nat) (t1 : Int32) (S Sz : Ws) (h : fLi_init t0 t1 S = some Sz) : Met l yLi_init wsLi_init { frames := 3, cells := 7, slots := 94, locals := 120 } (va_Pc [.ref t0, .int t1] (Wp D vwCl (hTy tc) b S)) (va_Qv (fun _ : Unit => True) (fun _ => Wp D vwCl (hTy tc) b Sz) (fun q => b ≤ q)) 7 94 (fun q => b ≤ q) := by
  refine hq_ofW (cc := cLi_init) (maxL := 2) (ret := none) (by decide) rfl (Nat.le_of_ble_eq_true rfl) fun p e s m args below meth c hx hb hr hts hown hlocks hnm hml H locs ls hl hW => ?_
  have hts : ∀ w ∈ lwG, w.before args s = true := fun w h => hts w (List.mem_cons_of_mem _ h)
  have hown : s.vm.findClass "SerialPlant$Line" = some m.cls := hown
  have hl : lv_has ls 2 [(0, .ref t0), (1, .int t1)] := hl
  unfold fLi_init at h
  refine lv_aload_n hx hb dLi_init_0 rfl (lv_at hl 0 rfl) ?_
  refine W.objInit hx hb hown (hts _ w_63) (hts _ w_17) (hts _ w_oi) rfl (by rw [hml]; exact hl.1) rfl dLi_init_1 (Nat.le_of_ble_eq_true rfl) (Nat.le_of_ble_eq_true rfl) ?_
  refine W.eq (g2 := F0 m 4 ls []) rfl ?_
  refine lv_aload_n hx hb dLi_init_4 rfl (lv_at hl 0 rfl) ?_
  refine hq_new (ci := 6) (fs := [.null, .int 0]) (C := "SerialPlant$Way") (T := TWa) (N := 2) (ce := 1) (sl := 2) hx hb hts inWa tyWa tyWa_ok hown (hts _ w_64) (hts _ w_65) (hts _ w_4) hW rfl dfWa rfl rfl (Nat.le_of_ble_eq_true rfl) (Nat.le_of_ble_eq_true rfl) dLi_init_5 (fun H hW => ?_)
  refine lv_dup hx hb dLi_init_8 rfl ?_
  replace h := ob h; obtain ⟨S1, eS1, h⟩ := h
  refine hq_callv (ce := 3) (sl := 45) (va_runIN (As := []) (rest := [.ref S.1, .ref t0]) ⟨hx, hb, hml, hown, hts⟩ (kWa_init l D tc b S.1 (S.add (.inr (6, [.null, .int 0]))) _ eS1) ⟨va_cnB 0 hts G0_Wa_init rfl rfl rfl hW.nw.1.1 (hts _ w_4) hd_Wa_init_I ⟨Nat.le_of_ble_eq_true rfl, Nat.le_of_ble_eq_true rfl⟩, rfl, hts _ w_67⟩ (hq_preS hW) rfl rfl hl.1 rfl (lv_room (by first | exact Nat.le_of_ble_eq_true rfl | (simp only [List.map, rf_cat]; exact Nat.le_of_ble_eq_true rfl))) dLi_init_9 ⟨Nat.le_of_ble_eq_true rfl, Nat.le_of_ble_eq_true rfl⟩) hW rfl rfl (fun H locs hW => ?_)
  replace h := ob h; obtain ⟨S2, eS2, h⟩ := h
  refine hq_put hx hb hts hown hW eS2 (F_Li_12 hts) (P_Li_Li_1 hnm) rfl rfl dLi_init_12 (fun H locs hW => ?_)
  refine lv_aload_n hx hb dLi_init_15 rfl (lv_at hl 0 rfl) ?_
  refine hq_new (ci := 6) (fs := [.null, .int 0]) (C := "SerialPlant$Way") (T := TWa) (N := 2) (ce := 4) (sl := 47) hx hb hts inWa tyWa tyWa_ok hown (hts _ w_64) (hts _ w_65) (hts _ w_4) hW rfl dfWa rfl rfl (Nat.le_of_ble_eq_true rfl) (Nat.le_of_ble_eq_true rfl) dLi_init_16 (fun H hW => ?_)
  refine lv_dup hx hb dLi_init_19 rfl ?_
  replace h := ob h; obtain ⟨S3, eS3, h⟩ := h
  refine hq_callv (ce := 6) (sl := 90) (va_runIN (As := []) (rest := [.ref S2.1, .ref t0]) ⟨hx, hb, hml, hown, hts⟩ (kWa_init l D tc b S2.1 (S2.add (.inr (6, [.null, .int 0]))) _ eS3) ⟨va_cnB 0 hts G0_Wa_init rfl rfl rfl hW.nw.1.1 (hts _ w_4) hd_Wa_init_I ⟨Nat.le_of_ble_eq_true rfl, Nat.le_of_ble_eq_true rfl⟩, rfl, hts _ w_67⟩ (hq_preS hW) rfl rfl hl.1 rfl (lv_room (by first | exact Nat.le_of_ble_eq_true rfl | (simp only [List.map, rf_cat]; exact Nat.le_of_ble_eq_true rfl))) dLi_init_20 ⟨Nat.le_of_ble_eq_true rfl, Nat.le_of_ble_eq_true rfl⟩) hW rfl rfl (fun H locs hW => ?_)
  replace h := ob h; obtain ⟨S4, eS4, h⟩ := h
  refine hq_put hx hb hts hown hW eS4 (F_Li_18 hts) (P_Li_Li_2 hnm) rfl rfl dLi_init_23 (fun H locs hW => ?_)
  refine lv_aload_n hx hb dLi_init_26 rfl (lv_at hl 0 rfl) ?_
  refine lv_iconst hx hb dLi_init_27 (v := (4 : Int32)) rfl ?_
  refine hq_newq (C := "SerialPlant$Job") (N := 4) (ce := 7) (sl := 94) hx hb hown (hts _ w_92) hW.nw.2.2.2.2.2.1 hW 7 rfl (by decide) rfl (by decide) rfl rfl (Nat.le_of_ble_eq_true rfl) (Nat.le_of_ble_eq_true rfl) dLi_init_28 (fun H hW => ?_)
  replace h := ob h; obtain ⟨S5, eS5, h⟩ := h
  refine hq_put hx hb hts hown hW eS5 (F_Li_23 hts) (P_Li_Li_3 hnm) rfl rfl dLi_init_31 (fun H locs hW => ?_)
  refine lv_aload_n hx hb dLi_init_34 rfl (lv_at hl 0 rfl) ?_
  refine lv_iconst hx hb dLi_init_35 (v := (-1 : Int32)) rfl ?_
  replace h := ob h; obtain ⟨S6, eS6, h⟩ := h
  refine hq_put hx hb hts hown hW eS6 (F_Li_27 hts) P_Li_Li_8 rfl rfl dLi_init_36 (fun H locs hW => ?_)
  refine lv_aload_n hx hb dLi_init_39 rfl (lv_at hl 0 rfl) ?_
  refine lv_iload_n hx hb dLi_init_40 rfl (lv_at hl 1 rfl) ?_
  replace h := ob h; obtain ⟨S7, eS7, h⟩ := h
  refine hq_put hx hb hts hown hW eS7 (F_Li_31 hts) (P_Li_Li_0 hnm) rfl rfl dLi_init_41 (fun H locs hW => ?_)
  exact hq_vret hx hb hr hlocks h (Nat.le_of_ble_eq_true rfl) (Nat.le_of_ble_eq_true rfl) hW dLi_init_44
def fLi_enqueue (t0 : Nat) (t1 : Nat) (S : Ws) : Option (Int32 × Ws) :=
  (gI S t0 [2] 4).bind fun v1 => if v1 < (4 : Int32) then (gR S t0 [2] 3).bind fun r2 => (gI S t0 [2] 4).bind fun v3 => (r2).bind fun a4 => (ck S (some t1) [3, 4]).bind fun z6 => (sR S a4 7 v3 (some t1)).bind fun S5 => (gI S5 t0 [2] 4).bind fun v7 => (pV S5 t0 [2] 4 (.int (v7 + (1 : Int32)))).bind fun S8 => (bz (1 : Int32)).bind fun z9 => some ((1 : Int32), S8) else (bz (0 : Int32)).bind fun z10 => some ((0 : Int32), S)
set_option maxRecDepth 100000 in
set_option maxHeartbeats 4000000 in
theorem kLi_enqueue (l : Launch) (D : va_G) (tc : Nat → ClassId) (b : Nat) (t0 : Nat) (t1 : Nat) (S Sz : Ws) (rr : Int32) (h : fLi_enqueue t0 t1 S = some (rr, Sz)) : Met l yLi_enqueue wsLi_enqueue { frames := 1, cells := 0, slots := 0, locals := 40 } (va_Pc [.ref t0, .ref t1] (Wp D vwCl (hTy tc) b S)) (va_Qi (fun x (_ : Unit) => x = rr) (fun _ => Wp D vwCl (hTy tc) b Sz) (fun q => b ≤ q)) 0 0 (fun q => b ≤ q) := by
  refine hq_ofW (cc := cLi_enqueue) (maxL := 2) (ret := (some .boolean)) (by decide) rfl (Nat.le_of_ble_eq_true rfl) fun p e s m args below meth c hx hb hr hts hown hlocks hnm hml H locs ls hl hW => ?_
  have hts : ∀ w ∈ lwG, w.before args s = true := fun w h => hts w (List.mem_cons_of_mem _ h)
  have hown : s.vm.findClass "SerialPlant$Line" = some m.cls := hown
  have hl : lv_has ls 2 [(0, .ref t0), (1, .ref t1)] := hl
  unfold fLi_enqueue at h
  refine lv_aload_n hx hb dLi_enqueue_0 rfl (lv_at hl 0 rfl) ?_
  replace h := ob h; obtain ⟨v1, ev1, h⟩ := h
  refine hq_get hx hb hts hown hW (gI_V ev1) (F_Li_34 hts) dLi_enqueue_1 ?_
  refine lv_iconst hx hb dLi_enqueue_4 (v := (4 : Int32)) rfl ?_
  refine lv_icmp_lt hx hb dLi_enqueue_5 (tgt := 10) rfl (fun hc11 => ?_) (fun hc11 => ?_)
  · replace h := if_t hc11 h
    refine lv_aload_n hx hb dLi_enqueue_10 rfl (lv_at hl 0 rfl) ?_
    replace h := ob h; obtain ⟨r2, er2, h⟩ := h
    refine hq_get hx hb hts hown hW (gR_V er2) (F_Li_23 hts) dLi_enqueue_11 ?_
    refine lv_aload_n hx hb dLi_enqueue_14 rfl (lv_at hl 0 rfl) ?_
    replace h := ob h; obtain ⟨v3, ev3, h⟩ := h
    refine hq_get hx hb hts hown hW (gI_V ev3) (F_Li_34 hts) dLi_enqueue_15 ?_
    refine lv_aload_n hx hb dLi_enqueue_18 rfl (lv_at hl 1 rfl) ?_
    replace h := ob h; obtain ⟨a4, hra4, h⟩ := h
    subst hra4
    replace h := ob h; obtain ⟨z6, ez6, h⟩ := h
    replace h := ob h; obtain ⟨S5, eS5, h⟩ := h
    refine hq_aast (x := (some t1)) hx hb hW ez6 eS5 rfl (fk2 ⟨_, rfl, Or.inr hW.nw.2.2.1.1⟩ ⟨_, rfl, Or.inr hW.nw.2.2.1.2⟩) dLi_enqueue_19 (fun H locs hW => ?_)
    refine lv_aload_n hx hb dLi_enqueue_20 rfl (lv_at hl 0 rfl) ?_
    refine lv_dup hx hb dLi_enqueue_21 rfl ?_
    replace h := ob h; obtain ⟨v7, ev7, h⟩ := h
    refine hq_get hx hb hts hown hW (gI_V ev7) (F_Li_34 hts) dLi_enqueue_22 ?_
    refine lv_iconst hx hb dLi_enqueue_25 (v := (1 : Int32)) rfl ?_
    refine lv_iadd hx hb dLi_enqueue_26 ?_
    replace h := ob h; obtain ⟨S8, eS8, h⟩ := h
    refine hq_put hx hb hts hown hW eS8 (F_Li_34 hts) P_Li_Li_4 rfl rfl dLi_enqueue_27 (fun H locs hW => ?_)
    refine lv_iconst hx hb dLi_enqueue_30 (v := (1 : Int32)) rfl ?_
    replace h := ob h; obtain ⟨z9, ez9, h⟩ := h
    exact hq_zret hx hb hr hlocks (bz_some ez9).2 h (Nat.le_of_ble_eq_true rfl) (Nat.le_of_ble_eq_true rfl) hW dLi_enqueue_31
  · replace h := if_f hc11 h
    refine lv_iconst hx hb dLi_enqueue_8 (v := (0 : Int32)) rfl ?_
    replace h := ob h; obtain ⟨z10, ez10, h⟩ := h
    exact hq_zret hx hb hr hlocks (bz_some ez10).2 h (Nat.le_of_ble_eq_true rfl) (Nat.le_of_ble_eq_true rfl) hW dLi_enqueue_9
def fLi_wayOf (t0 : Nat) (t1 : Int32) (S : Ws) : Option (Option Nat × Ws) :=
  if t1 = 0 then (gR S t0 [2] 1).bind fun r1 => some (r1, S) else (gR S t0 [2] 2).bind fun r2 => some (r2, S)
set_option maxRecDepth 100000 in
set_option maxHeartbeats 4000000 in
theorem kLi_wayOf (l : Launch) (D : va_G) (tc : Nat → ClassId) (b : Nat) (t0 : Nat) (t1 : Int32) (S Sz : Ws) (rr : Option Nat) (h : fLi_wayOf t0 t1 S = some (rr, Sz)) : Met l yLi_wayOf wsLi_wayOf { frames := 1, cells := 0, slots := 0, locals := 40 } (va_Pc [.ref t0, .int t1] (Wp D vwCl (hTy tc) b S)) (va_Qq (fun x (_ : Unit) => x = rr) (fun _ => Wp D vwCl (hTy tc) b Sz) (fun q => b ≤ q)) 0 0 (fun q => b ≤ q) := by
  refine hq_ofW (cc := cLi_wayOf) (maxL := 2) (ret := (some (.object "SerialPlant$Way"))) (by decide) rfl (Nat.le_of_ble_eq_true rfl) fun p e s m args below meth c hx hb hr hts hown hlocks hnm hml H locs ls hl hW => ?_
  have hts : ∀ w ∈ lwG, w.before args s = true := fun w h => hts w (List.mem_cons_of_mem _ h)
  have hown : s.vm.findClass "SerialPlant$Line" = some m.cls := hown
  have hl : lv_has ls 2 [(0, .ref t0), (1, .int t1)] := hl
  unfold fLi_wayOf at h
  refine lv_iload_n hx hb dLi_wayOf_0 rfl (lv_at hl 1 rfl) ?_
  refine lv_if_eq hx hb dLi_wayOf_1 (tgt := 11) rfl (fun hc3 => ?_) (fun hc3 => ?_)
  · replace h := if_t hc3 h
    refine lv_aload_n hx hb dLi_wayOf_11 rfl (lv_at hl 0 rfl) ?_
    replace h := ob h; obtain ⟨r1, er1, h⟩ := h
    refine hq_get hx hb hts hown hW (gR_V er1) (F_Li_12 hts) dLi_wayOf_12 ?_
    exact hq_aret (v := r1) hx hb hr hlocks (by first | exact Or.inl ⟨_, rfl⟩ | exact Or.inr ⟨_, rfl⟩) h (Nat.le_of_ble_eq_true rfl) (Nat.le_of_ble_eq_true rfl) hW dLi_wayOf_15
  · replace h := if_f hc3 h
    refine lv_aload_n hx hb dLi_wayOf_4 rfl (lv_at hl 0 rfl) ?_
    replace h := ob h; obtain ⟨r2, er2, h⟩ := h
    refine hq_get hx hb hts hown hW (gR_V er2) (F_Li_18 hts) dLi_wayOf_5 ?_
    refine lv_goto hx hb dLi_wayOf_8 (tgt := 15) rfl ?_
    exact hq_aret (v := r2) hx hb hr hlocks (by first | exact Or.inl ⟨_, rfl⟩ | exact Or.inr ⟨_, rfl⟩) h (Nat.le_of_ble_eq_true rfl) (Nat.le_of_ble_eq_true rfl) hW dLi_wayOf_15
def fWa_plantFault (t0 : Nat) (S : Ws) : Option (Int32 × Ws) :=
  (gI S t0 [6] 1).bind fun v1 => if v1 = 0 then (bz (1 : Int32)).bind fun z3 => (pV S t0 [6] 1 (.int (1 : Int32))).bind fun S2 => (bz (1 : Int32)).bind fun z4 => some ((1 : Int32), S2) else (bz (0 : Int32)).bind fun z5 => some ((0 : Int32), S)
set_option maxRecDepth 100000 in
set_option maxHeartbeats 4000000 in
theorem kWa_plantFault (l : Launch) (D : va_G) (tc : Nat → ClassId) (b : Nat) (t0 : Nat) (S Sz : Ws) (rr : Int32) (h : fWa_plantFault t0 S = some (rr, Sz)) : Met l yWa_plantFault wsWa_plantFault { frames := 1, cells := 0, slots := 0, locals := 40 } (va_Pc [.ref t0] (Wp D vwCl (hTy tc) b S)) (va_Qi (fun x (_ : Unit) => x = rr) (fun _ => Wp D vwCl (hTy tc) b Sz) (fun q => b ≤ q)) 0 0 (fun q => b ≤ q) := by
  refine hq_ofW (cc := cWa_plantFault) (maxL := 1) (ret := (some .boolean)) (by decide) rfl (Nat.le_of_ble_eq_true rfl) fun p e s m args below meth c hx hb hr hts hown hlocks hnm hml H locs ls hl hW => ?_
  have hts : ∀ w ∈ lwG, w.before args s = true := fun w h => hts w (List.mem_cons_of_mem _ h)
  have hown : s.vm.findClass "SerialPlant$Way" = some m.cls := hown
  have hl : lv_has ls 1 [(0, .ref t0)] := hl
  unfold fWa_plantFault at h
  refine lv_aload_n hx hb dWa_plantFault_0 rfl (lv_at hl 0 rfl) ?_
  replace h := ob h; obtain ⟨v1, ev1, h⟩ := h
  refine hq_get hx hb hts hown hW (gI_V ev1) (F_Wa_16 hts) dWa_plantFault_1 ?_
  refine lv_if_eq hx hb dWa_plantFault_4 (tgt := 9) rfl (fun hc6 => ?_) (fun hc6 => ?_)
  · replace h := if_t hc6 h
    refine lv_aload_n hx hb dWa_plantFault_9 rfl (lv_at hl 0 rfl) ?_
    refine lv_iconst hx hb dWa_plantFault_10 (v := (1 : Int32)) rfl ?_
    replace h := ob h; obtain ⟨z3, ez3, h⟩ := h
    replace h := ob h; obtain ⟨S2, eS2, h⟩ := h
    refine hq_put hx hb hts hown hW eS2 (F_Wa_16 hts) P_Wa_Wa_1 (bz_nar (bz_some ez3).2) (bz_fits (bz_some ez3).2) dWa_plantFault_11 (fun H locs hW => ?_)
    refine lv_iconst hx hb dWa_plantFault_14 (v := (1 : Int32)) rfl ?_
    replace h := ob h; obtain ⟨z4, ez4, h⟩ := h
    exact hq_zret hx hb hr hlocks (bz_some ez4).2 h (Nat.le_of_ble_eq_true rfl) (Nat.le_of_ble_eq_true rfl) hW dWa_plantFault_15
  · replace h := if_f hc6 h
    refine lv_iconst hx hb dWa_plantFault_7 (v := (0 : Int32)) rfl ?_
    replace h := ob h; obtain ⟨z5, ez5, h⟩ := h
    exact hq_zret hx hb hr hlocks (bz_some ez5).2 h (Nat.le_of_ble_eq_true rfl) (Nat.le_of_ble_eq_true rfl) hW dWa_plantFault_8
def fLi_has_L2 (S : Ws) (t0 : Nat) (t1 : Nat) : Int32 → Option ((Int32) ⊕ (Int32 × Ws)) :=
  fun i1 => (gI S t0 [2] 4).bind fun v3 => if v3 ≤ i1 then (gR S t0 [2] 5).bind fun r4 => if r4 = (some t1) then (bz (1 : Int32)).bind fun z6 => some (.inr ((1 : Int32), S)) else (bz (0 : Int32)).bind fun z5 => some (.inr ((0 : Int32), S)) else if (4 : Int32) ≤ i1 then (gR S t0 [2] 5).bind fun r8 => if r8 = (some t1) then (bz (1 : Int32)).bind fun z10 => some (.inr ((1 : Int32), S)) else (bz (0 : Int32)).bind fun z9 => some (.inr ((0 : Int32), S)) else (gR S t0 [2] 3).bind fun r12 => (r12).bind fun a13 => (aR S a13 7 i1).bind fun r14 => if r14 = (some t1) then (bz (1 : Int32)).bind fun z15 => some (.inr ((1 : Int32), S)) else some (.inl (i1 + 1))
def fLi_has (t0 : Nat) (t1 : Nat) (S : Ws) : Option (Int32 × Ws) :=
  lp (fLi_has_L2 S t0 t1) 1000 (0 : Int32)
set_option maxRecDepth 100000 in
set_option maxHeartbeats 4000000 in
theorem kLi_has (l : Launch) (D : va_G) (tc : Nat → ClassId) (b : Nat) (t0 : Nat) (t1 : Nat) (S Sz : Ws) (rr : Int32) (h : fLi_has t0 t1 S = some (rr, Sz)) : Met l yLi_has wsLi_has { frames := 1, cells := 0, slots := 0, locals := 40 } (va_Pc [.ref t0, .ref t1] (Wp D vwCl (hTy tc) b S)) (va_Qi (fun x (_ : Unit) => x = rr) (fun _ => Wp D vwCl (hTy tc) b Sz) (fun q => b ≤ q)) 0 0 (fun q => b ≤ q) := by
  refine hq_ofW (cc := cLi_has) (maxL := 3) (ret := (some .boolean)) (by decide) rfl (Nat.le_of_ble_eq_true rfl) fun p e s m args below meth c hx hb hr hts hown hlocks hnm hml H locs ls hl hW => ?_
  have hts : ∀ w ∈ lwG, w.before args s = true := fun w h => hts w (List.mem_cons_of_mem _ h)
  have hown : s.vm.findClass "SerialPlant$Line" = some m.cls := hown
  have hl : lv_has ls 3 [(0, .ref t0), (1, .ref t1)] := hl
  unfold fLi_has at h
  refine lv_iconst hx hb dLi_has_0 (v := (0 : Int32)) rfl ?_
  refine lv_istore_n (lv' := [(2, .int (0 : Int32)), (0, .ref t0), (1, .ref t1)]) hx hb dLi_has_1 rfl hl (Nat.le_of_ble_eq_true rfl) (by first | rfl | (simp [List.filter, rf_cat] <;> rfl)) (fun ls hl => ?_)
  refine lp_ind (P := fun q' => ∀ (H : Heap) (locs : List Loc) (ls : Array Slot), lv_has ls 3 [(0, .ref t0), (1, .ref t1), (2, .int q')] → Wd D vwCl (hTy tc) b S s H locs → W p l e { frames := 1, cells := 0, slots := 0, locals := 40 } s m args below meth c H locs 0 0 (MQ below (va_Qi (fun x (_ : Unit) => x = rr) (fun _ => Wp D vwCl (hTy tc) b Sz) (fun q => b ≤ q)) args s 0 0 (fun q => b ≤ q)) (F0 m 2 ls [])) (Q := fun y => y = (rr, Sz)) (fun i1 x2 h hin hex => ?_) rfl _ _ h _ _ _ (lv_sub hl [1, 2, 0] rfl) hW
  skip
  intro H locs ls hl hW
  unfold fLi_has_L2 at h
  refine lv_iload_n hx hb dLi_has_2 rfl (lv_at hl 2 rfl) ?_
  refine lv_aload_n hx hb dLi_has_3 rfl (lv_at hl 0 rfl) ?_
  replace h := ob h; obtain ⟨v3, ev3, h⟩ := h
  refine hq_get hx hb hts hown hW (gI_V ev3) (F_Li_34 hts) dLi_has_4 ?_
  refine lv_icmp_ge hx hb dLi_has_7 (tgt := 33) rfl (fun hc18 => ?_) (fun hc18 => ?_)
  · replace h := if_t hc18 h
    refine lv_aload_n hx hb dLi_has_33 rfl (lv_at hl 0 rfl) ?_
    replace h := ob h; obtain ⟨r4, er4, h⟩ := h
    refine hq_get hx hb hts hown hW (gR_V er4) (F_Li_37 hts) dLi_has_34 ?_
    refine lv_aload_n hx hb dLi_has_37 rfl (lv_at hl 1 rfl) ?_
    refine lv_acmp_ne (rx := r4) (ry := (some t1)) hx hb dLi_has_38 (tgt := 45) rfl (fun hc7 => ?_) (fun hc7 => ?_)
    · replace h := if_f hc7 h
      refine lv_iconst hx hb dLi_has_45 (v := (0 : Int32)) rfl ?_
      replace h := ob h; obtain ⟨z5, ez5, h⟩ := h
      exact hq_zret hx hb hr hlocks (bz_some ez5).2 (congrArg some (hex _ (Option.some.inj h).symm)) (Nat.le_of_ble_eq_true rfl) (Nat.le_of_ble_eq_true rfl) hW dLi_has_46
    · replace h := if_t hc7 h
      refine lv_iconst hx hb dLi_has_41 (v := (1 : Int32)) rfl ?_
      refine lv_goto hx hb dLi_has_42 (tgt := 46) rfl ?_
      replace h := ob h; obtain ⟨z6, ez6, h⟩ := h
      exact hq_zret hx hb hr hlocks (bz_some ez6).2 (congrArg some (hex _ (Option.some.inj h).symm)) (Nat.le_of_ble_eq_true rfl) (Nat.le_of_ble_eq_true rfl) hW dLi_has_46
  · replace h := if_f hc18 h
    refine lv_iload_n hx hb dLi_has_10 rfl (lv_at hl 2 rfl) ?_
    refine lv_iconst hx hb dLi_has_11 (v := (4 : Int32)) rfl ?_
    refine lv_icmp_ge hx hb dLi_has_12 (tgt := 33) rfl (fun hc17 => ?_) (fun hc17 => ?_)
    · replace h := if_t hc17 h
      refine lv_aload_n hx hb dLi_has_33 rfl (lv_at hl 0 rfl) ?_
      replace h := ob h; obtain ⟨r8, er8, h⟩ := h
      refine hq_get hx hb hts hown hW (gR_V er8) (F_Li_37 hts) dLi_has_34 ?_
      refine lv_aload_n hx hb dLi_has_37 rfl (lv_at hl 1 rfl) ?_
      refine lv_acmp_ne (rx := r8) (ry := (some t1)) hx hb dLi_has_38 (tgt := 45) rfl (fun hc11 => ?_) (fun hc11 => ?_)
      · replace h := if_f hc11 h
        refine lv_iconst hx hb dLi_has_45 (v := (0 : Int32)) rfl ?_
        replace h := ob h; obtain ⟨z9, ez9, h⟩ := h
        exact hq_zret hx hb hr hlocks (bz_some ez9).2 (congrArg some (hex _ (Option.some.inj h).symm)) (Nat.le_of_ble_eq_true rfl) (Nat.le_of_ble_eq_true rfl) hW dLi_has_46
      · replace h := if_t hc11 h
        refine lv_iconst hx hb dLi_has_41 (v := (1 : Int32)) rfl ?_
        refine lv_goto hx hb dLi_has_42 (tgt := 46) rfl ?_
        replace h := ob h; obtain ⟨z10, ez10, h⟩ := h
        exact hq_zret hx hb hr hlocks (bz_some ez10).2 (congrArg some (hex _ (Option.some.inj h).symm)) (Nat.le_of_ble_eq_true rfl) (Nat.le_of_ble_eq_true rfl) hW dLi_has_46
    · replace h := if_f hc17 h
      refine lv_aload_n hx hb dLi_has_15 rfl (lv_at hl 0 rfl) ?_
      replace h := ob h; obtain ⟨r12, er12, h⟩ := h
      refine hq_get hx hb hts hown hW (gR_V er12) (F_Li_23 hts) dLi_has_16 ?_
      refine lv_iload_n hx hb dLi_has_19 rfl (lv_at hl 2 rfl) ?_
      replace h := ob h; obtain ⟨a13, hra13, h⟩ := h
      subst hra13
      replace h := ob h; obtain ⟨r14, er14, h⟩ := h
      refine hq_aald hx hb hW er14 rfl dLi_has_20 ?_
      refine lv_aload_n hx hb dLi_has_21 rfl (lv_at hl 1 rfl) ?_
      refine lv_acmp_ne (rx := r14) (ry := (some t1)) hx hb dLi_has_22 (tgt := 27) rfl (fun hc16 => ?_) (fun hc16 => ?_)
      · replace h := if_f hc16 h
        refine lv_iinc (k := 2) (v := i1 + 1) (lv' := [(2, .int (i1 + 1)), (0, .ref t0), (1, .ref t1)]) hx hb dLi_has_27 hl rfl rfl (Nat.le_of_ble_eq_true rfl) (by first | rfl | (simp [List.filter, rf_cat] <;> rfl)) (fun ls hl => ?_)
        refine lv_goto hx hb dLi_has_30 (tgt := 2) rfl ?_
        exact hin _ (Option.some.inj h).symm _ _ _ (lv_sub hl [1, 2, 0] rfl) hW
      · replace h := if_t hc16 h
        refine lv_iconst hx hb dLi_has_25 (v := (1 : Int32)) rfl ?_
        replace h := ob h; obtain ⟨z15, ez15, h⟩ := h
        exact hq_zret hx hb hr hlocks (bz_some ez15).2 (congrArg some (hex _ (Option.some.inj h).symm)) (Nat.le_of_ble_eq_true rfl) (Nat.le_of_ble_eq_true rfl) hW dLi_has_26
def fLi_release (t0 : Nat) (S : Ws) : Option (Ws) :=
  (pV S t0 [2] 5 (va_rf none)).bind fun S1 => (pV S1 t0 [2] 6 (.int (0 : Int32))).bind fun S2 => (pV S2 t0 [2] 8 (.int (-1 : Int32))).bind fun S3 => some S3
set_option maxRecDepth 100000 in
set_option maxHeartbeats 4000000 in
theorem kLi_release (l : Launch) (D : va_G) (tc : Nat → ClassId) (b : Nat) (t0 : Nat) (S Sz : Ws) (h : fLi_release t0 S = some Sz) : Met l yLi_release wsLi_release { frames := 1, cells := 0, slots := 0, locals := 40 } (va_Pc [.ref t0] (Wp D vwCl (hTy tc) b S)) (va_Qv (fun _ : Unit => True) (fun _ => Wp D vwCl (hTy tc) b Sz) (fun q => b ≤ q)) 0 0 (fun q => b ≤ q) := by
  refine hq_ofW (cc := cLi_release) (maxL := 1) (ret := none) (by decide) rfl (Nat.le_of_ble_eq_true rfl) fun p e s m args below meth c hx hb hr hts hown hlocks hnm hml H locs ls hl hW => ?_
  have hts : ∀ w ∈ lwG, w.before args s = true := fun w h => hts w (List.mem_cons_of_mem _ h)
  have hown : s.vm.findClass "SerialPlant$Line" = some m.cls := hown
  have hl : lv_has ls 1 [(0, .ref t0)] := hl
  unfold fLi_release at h
  refine lv_aload_n hx hb dLi_release_0 rfl (lv_at hl 0 rfl) ?_
  refine lv_null hx hb dLi_release_1 ?_
  replace h := ob h; obtain ⟨S1, eS1, h⟩ := h
  refine hq_put hx hb hts hown hW eS1 (F_Li_37 hts) P_Li_Li_5 rfl rfl dLi_release_2 (fun H locs hW => ?_)
  refine lv_aload_n hx hb dLi_release_5 rfl (lv_at hl 0 rfl) ?_
  refine lv_iconst hx hb dLi_release_6 (v := (0 : Int32)) rfl ?_
  replace h := ob h; obtain ⟨S2, eS2, h⟩ := h
  refine hq_put hx hb hts hown hW eS2 (F_Li_41 hts) P_Li_Li_6 rfl rfl dLi_release_7 (fun H locs hW => ?_)
  refine lv_aload_n hx hb dLi_release_10 rfl (lv_at hl 0 rfl) ?_
  refine lv_iconst hx hb dLi_release_11 (v := (-1 : Int32)) rfl ?_
  replace h := ob h; obtain ⟨S3, eS3, h⟩ := h
  refine hq_put hx hb hts hown hW eS3 (F_Li_27 hts) P_Li_Li_8 rfl rfl dLi_release_12 (fun H locs hW => ?_)
  exact hq_vret hx hb hr hlocks h (Nat.le_of_ble_eq_true rfl) (Nat.le_of_ble_eq_true rfl) hW dLi_release_15
def fLi_isOverdue (t0 : Nat) (t1 : Int32) (S : Ws) : Option (Int32 × Ws) :=
  (gR S t0 [2] 5).bind fun r1 => oc r1 ((bz (0 : Int32)).bind fun z3 => some ((0 : Int32), S)) (fun a2 => (gR S t0 [2] 5).bind fun r4 => (r4).bind fun a5 => (gO S a5 [3, 4]).bind fun q8 => (fJo_isBroadcast a5 S).bind fun (v7, S6) => (if v7 = 0 then some (3 : Int32) else some (2 : Int32)).bind fun i10 => (gI S6 t0 [2] 7).bind fun v13 => if (t1 - v13) < i10 then (bz (0 : Int32)).bind fun z14 => some ((0 : Int32), S6) else (bz (1 : Int32)).bind fun z15 => some ((1 : Int32), S6))
set_option maxRecDepth 100000 in
set_option maxHeartbeats 4000000 in
theorem kLi_isOverdue (l : Launch) (D : va_G) (tc : Nat → ClassId) (b : Nat) (t0 : Nat) (t1 : Int32) (S Sz : Ws) (rr : Int32) (h : fLi_isOverdue t0 t1 S = some (rr, Sz)) : Met l yLi_isOverdue wsLi_isOverdue { frames := 2, cells := 0, slots := 0, locals := 80 } (va_Pc [.ref t0, .int t1] (Wp D vwCl (hTy tc) b S)) (va_Qi (fun x (_ : Unit) => x = rr) (fun _ => Wp D vwCl (hTy tc) b Sz) (fun q => b ≤ q)) 0 0 (fun q => b ≤ q) := by
  refine hq_ofW (cc := cLi_isOverdue) (maxL := 3) (ret := (some .boolean)) (by decide) rfl (Nat.le_of_ble_eq_true rfl) fun p e s m args below meth c hx hb hr hts hown hlocks hnm hml H locs ls hl hW => ?_
  have hts : ∀ w ∈ lwG, w.before args s = true := fun w h => hts w (List.mem_cons_of_mem _ h)
  have hown : s.vm.findClass "SerialPlant$Line" = some m.cls := hown
  have hl : lv_has ls 3 [(0, .ref t0), (1, .int t1)] := hl
  unfold fLi_isOverdue at h
  refine lv_aload_n hx hb dLi_isOverdue_0 rfl (lv_at hl 0 rfl) ?_
  replace h := ob h; obtain ⟨r1, er1, h⟩ := h
  refine hq_get hx hb hts hown hW (gR_V er1) (F_Li_37 hts) dLi_isOverdue_1 ?_
  refine hq_ifnonnull hx hb dLi_isOverdue_4 (tgt := 9) rfl (fun hc => ?_) (fun a2 hc => ?_)
  · subst hc
    replace h := oc_n h
    refine lv_iconst hx hb dLi_isOverdue_7 (v := (0 : Int32)) rfl ?_
    replace h := ob h; obtain ⟨z3, ez3, h⟩ := h
    exact hq_zret hx hb hr hlocks (bz_some ez3).2 h (Nat.le_of_ble_eq_true rfl) (Nat.le_of_ble_eq_true rfl) hW dLi_isOverdue_8
  · subst hc
    replace h := oc_s h
    refine lv_aload_n hx hb dLi_isOverdue_9 rfl (lv_at hl 0 rfl) ?_
    replace h := ob h; obtain ⟨r4, er4, h⟩ := h
    refine hq_get hx hb hts hown hW (gR_V er4) (F_Li_37 hts) dLi_isOverdue_10 ?_
    replace h := ob h; obtain ⟨a5, hra5, h⟩ := h
    subst hra5
    replace h := ob h; obtain ⟨q8, eq8, h⟩ := h
    replace h := ob h; obtain ⟨⟨v7, S6⟩, eS6, h⟩ := h
    have hR9 : va_Run p l e { frames := 2, cells := 0, slots := 0, locals := 80 } s m args below meth c H locs 0 0 0 0 (F0 m 13 ls [.ref a5]) [] (va_Qi (fun x (_ : Unit) => x = v7) (fun _ => Wp D vwCl (hTy tc) b S6) (fun q => b ≤ q) (.ref a5 :: []).toArray) (fun q => b ≤ q) := by
      rcases mem2 (gO_some eq8).2 with hq | hq
      · exact va_runU (As := []) (rest := []) ⟨hx, hb, hml, hown, hts⟩ (kJo_isBroadcast l D tc b a5 S _ _ eS6) (va_cwU 0 hts GU_Li_47_Po rfl rfl rfl rfl hd_Jo_isBroadcast_U ⟨Nat.le_of_ble_eq_true rfl, Nat.le_of_ble_eq_true rfl⟩) (hq_preV hW (gO_some eq8).1 (by rw [hq]; rfl) rfl) rfl rfl hl.1 rfl (lv_room (by first | exact Nat.le_of_ble_eq_true rfl | (simp only [List.map, rf_cat]; exact Nat.le_of_ble_eq_true rfl))) dLi_isOverdue_13 ⟨Nat.le_of_ble_eq_true rfl, Nat.le_of_ble_eq_true rfl⟩
      · exact va_runU (As := []) (rest := []) ⟨hx, hb, hml, hown, hts⟩ (kJo_isBroadcast l D tc b a5 S _ _ eS6) (va_cwU 0 hts GU_Li_47_Re rfl rfl rfl rfl hd_Jo_isBroadcast_U ⟨Nat.le_of_ble_eq_true rfl, Nat.le_of_ble_eq_true rfl⟩) (hq_preV hW (gO_some eq8).1 (by rw [hq]; rfl) rfl) rfl rfl hl.1 rfl (lv_room (by first | exact Nat.le_of_ble_eq_true rfl | (simp only [List.map, rf_cat]; exact Nat.le_of_ble_eq_true rfl))) dLi_isOverdue_13 ⟨Nat.le_of_ble_eq_true rfl, Nat.le_of_ble_eq_true rfl⟩
    refine hq_calli (ce := 0) (sl := 0) (hR9) hW rfl rfl (fun H locs hW => ?_)
    replace h := ob h; obtain ⟨q11, e24, h⟩ := h
    have hJ24 : ∀ q', q' = q11 → ∀ (H : Heap) (locs : List Loc) (ls : Array Slot), lv_has ls 3 [(0, .ref t0), (1, .int t1)] → Wd D vwCl (hTy tc) b S6 s H locs → W p l e { frames := 2, cells := 0, slots := 0, locals := 80 } s m args below meth c H locs 0 0 (MQ below (va_Qi (fun x (_ : Unit) => x = rr) (fun _ => Wp D vwCl (hTy tc) b Sz) (fun q => b ≤ q)) args s 0 0 (fun q => b ≤ q)) (F0 m 24 ls [.int q']) := by
      intro i10 hq'; subst hq'
      intro H locs ls hl hW
      refine lv_istore_n (lv' := [(2, .int i10), (0, .ref t0), (1, .int t1)]) hx hb dLi_isOverdue_24 rfl hl (Nat.le_of_ble_eq_true rfl) (by first | rfl | (simp [List.filter, rf_cat] <;> rfl)) (fun ls hl => ?_)
      refine lv_iload_n hx hb dLi_isOverdue_25 rfl (lv_at hl 2 rfl) ?_
      refine lv_aload_n hx hb dLi_isOverdue_26 rfl (lv_at hl 1 rfl) ?_
      replace h := ob h; obtain ⟨v13, ev13, h⟩ := h
      refine hq_get hx hb hts hown hW (gI_V ev13) (F_Li_44 hts) dLi_isOverdue_27 ?_
      refine lv_isub hx hb dLi_isOverdue_30 ?_
      refine lv_iload_n hx hb dLi_isOverdue_31 rfl (lv_at hl 0 rfl) ?_
      refine lv_icmp_lt hx hb dLi_isOverdue_32 (tgt := 39) rfl (fun hc16 => ?_) (fun hc16 => ?_)
      · replace h := if_t hc16 h
        refine lv_iconst hx hb dLi_isOverdue_39 (v := (0 : Int32)) rfl ?_
        replace h := ob h; obtain ⟨z14, ez14, h⟩ := h
        exact hq_zret hx hb hr hlocks (bz_some ez14).2 h (Nat.le_of_ble_eq_true rfl) (Nat.le_of_ble_eq_true rfl) hW dLi_isOverdue_40
      · replace h := if_f hc16 h
        refine lv_iconst hx hb dLi_isOverdue_35 (v := (1 : Int32)) rfl ?_
        refine lv_goto hx hb dLi_isOverdue_36 (tgt := 40) rfl ?_
        replace h := ob h; obtain ⟨z15, ez15, h⟩ := h
        exact hq_zret hx hb hr hlocks (bz_some ez15).2 h (Nat.le_of_ble_eq_true rfl) (Nat.le_of_ble_eq_true rfl) hW dLi_isOverdue_40
    clear h; have h := e24; clear e24
    refine lv_if_eq hx hb dLi_isOverdue_16 (tgt := 23) rfl (fun hc12 => ?_) (fun hc12 => ?_)
    · replace h := if_t hc12 h
      refine lv_iconst hx hb dLi_isOverdue_23 (v := (3 : Int32)) rfl ?_
      exact hJ24 _ (Option.some.inj h) _ _ _ (lv_sub hl [0, 1] rfl) hW
    · replace h := if_f hc12 h
      refine lv_iconst hx hb dLi_isOverdue_19 (v := (2 : Int32)) rfl ?_
      refine lv_goto hx hb dLi_isOverdue_20 (tgt := 24) rfl ?_
      exact hJ24 _ (Option.some.inj h) _ _ _ (lv_sub hl [0, 1] rfl) hW
def fLi_maySendAgain (t0 : Nat) (S : Ws) : Option (Int32 × Ws) :=
  (gR S t0 [2] 5).bind fun r1 => oc r1 ((bz (0 : Int32)).bind fun z3 => some ((0 : Int32), S)) (fun a2 => (gR S t0 [2] 5).bind fun r4 => (r4).bind fun a5 => (gO S a5 [3, 4]).bind fun q8 => (fJo_isBroadcast a5 S).bind fun (v7, S6) => if v7 = 0 then (gI S6 t0 [2] 6).bind fun v11 => if (3 : Int32) ≤ v11 then (bz (0 : Int32)).bind fun z12 => some ((0 : Int32), S6) else (bz (1 : Int32)).bind fun z13 => some ((1 : Int32), S6) else (bz (0 : Int32)).bind fun z10 => some ((0 : Int32), S6))
set_option maxRecDepth 100000 in
set_option maxHeartbeats 4000000 in
theorem kLi_maySendAgain (l : Launch) (D : va_G) (tc : Nat → ClassId) (b : Nat) (t0 : Nat) (S Sz : Ws) (rr : Int32) (h : fLi_maySendAgain t0 S = some (rr, Sz)) : Met l yLi_maySendAgain wsLi_maySendAgain { frames := 2, cells := 0, slots := 0, locals := 80 } (va_Pc [.ref t0] (Wp D vwCl (hTy tc) b S)) (va_Qi (fun x (_ : Unit) => x = rr) (fun _ => Wp D vwCl (hTy tc) b Sz) (fun q => b ≤ q)) 0 0 (fun q => b ≤ q) := by
  refine hq_ofW (cc := cLi_maySendAgain) (maxL := 1) (ret := (some .boolean)) (by decide) rfl (Nat.le_of_ble_eq_true rfl) fun p e s m args below meth c hx hb hr hts hown hlocks hnm hml H locs ls hl hW => ?_
  have hts : ∀ w ∈ lwG, w.before args s = true := fun w h => hts w (List.mem_cons_of_mem _ h)
  have hown : s.vm.findClass "SerialPlant$Line" = some m.cls := hown
  have hl : lv_has ls 1 [(0, .ref t0)] := hl
  unfold fLi_maySendAgain at h
  refine lv_aload_n hx hb dLi_maySendAgain_0 rfl (lv_at hl 0 rfl) ?_
  replace h := ob h; obtain ⟨r1, er1, h⟩ := h
  refine hq_get hx hb hts hown hW (gR_V er1) (F_Li_37 hts) dLi_maySendAgain_1 ?_
  refine hq_ifnull hx hb dLi_maySendAgain_4 (tgt := 29) rfl (fun hc => ?_) (fun a2 hc => ?_)
  · subst hc
    replace h := oc_n h
    refine lv_iconst hx hb dLi_maySendAgain_29 (v := (0 : Int32)) rfl ?_
    replace h := ob h; obtain ⟨z3, ez3, h⟩ := h
    exact hq_zret hx hb hr hlocks (bz_some ez3).2 h (Nat.le_of_ble_eq_true rfl) (Nat.le_of_ble_eq_true rfl) hW dLi_maySendAgain_30
  · subst hc
    replace h := oc_s h
    refine lv_aload_n hx hb dLi_maySendAgain_7 rfl (lv_at hl 0 rfl) ?_
    replace h := ob h; obtain ⟨r4, er4, h⟩ := h
    refine hq_get hx hb hts hown hW (gR_V er4) (F_Li_37 hts) dLi_maySendAgain_8 ?_
    replace h := ob h; obtain ⟨a5, hra5, h⟩ := h
    subst hra5
    replace h := ob h; obtain ⟨q8, eq8, h⟩ := h
    replace h := ob h; obtain ⟨⟨v7, S6⟩, eS6, h⟩ := h
    have hR9 : va_Run p l e { frames := 2, cells := 0, slots := 0, locals := 80 } s m args below meth c H locs 0 0 0 0 (F0 m 11 ls [.ref a5]) [] (va_Qi (fun x (_ : Unit) => x = v7) (fun _ => Wp D vwCl (hTy tc) b S6) (fun q => b ≤ q) (.ref a5 :: []).toArray) (fun q => b ≤ q) := by
      rcases mem2 (gO_some eq8).2 with hq | hq
      · exact va_runU (As := []) (rest := []) ⟨hx, hb, hml, hown, hts⟩ (kJo_isBroadcast l D tc b a5 S _ _ eS6) (va_cwU 0 hts GU_Li_47_Po rfl rfl rfl rfl hd_Jo_isBroadcast_U ⟨Nat.le_of_ble_eq_true rfl, Nat.le_of_ble_eq_true rfl⟩) (hq_preV hW (gO_some eq8).1 (by rw [hq]; rfl) rfl) rfl rfl hl.1 rfl (lv_room (by first | exact Nat.le_of_ble_eq_true rfl | (simp only [List.map, rf_cat]; exact Nat.le_of_ble_eq_true rfl))) dLi_maySendAgain_11 ⟨Nat.le_of_ble_eq_true rfl, Nat.le_of_ble_eq_true rfl⟩
      · exact va_runU (As := []) (rest := []) ⟨hx, hb, hml, hown, hts⟩ (kJo_isBroadcast l D tc b a5 S _ _ eS6) (va_cwU 0 hts GU_Li_47_Re rfl rfl rfl rfl hd_Jo_isBroadcast_U ⟨Nat.le_of_ble_eq_true rfl, Nat.le_of_ble_eq_true rfl⟩) (hq_preV hW (gO_some eq8).1 (by rw [hq]; rfl) rfl) rfl rfl hl.1 rfl (lv_room (by first | exact Nat.le_of_ble_eq_true rfl | (simp only [List.map, rf_cat]; exact Nat.le_of_ble_eq_true rfl))) dLi_maySendAgain_11 ⟨Nat.le_of_ble_eq_true rfl, Nat.le_of_ble_eq_true rfl⟩
    refine hq_calli (ce := 0) (sl := 0) (hR9) hW rfl rfl (fun H locs hW => ?_)
    refine lv_if_ne hx hb dLi_maySendAgain_14 (tgt := 29) rfl (fun hc15 => ?_) (fun hc15 => ?_)
    · replace h := if_f hc15 h
      refine lv_iconst hx hb dLi_maySendAgain_29 (v := (0 : Int32)) rfl ?_
      replace h := ob h; obtain ⟨z10, ez10, h⟩ := h
      exact hq_zret hx hb hr hlocks (bz_some ez10).2 h (Nat.le_of_ble_eq_true rfl) (Nat.le_of_ble_eq_true rfl) hW dLi_maySendAgain_30
    · replace h := if_t hc15 h
      refine lv_aload_n hx hb dLi_maySendAgain_17 rfl (lv_at hl 0 rfl) ?_
      replace h := ob h; obtain ⟨v11, ev11, h⟩ := h
      refine hq_get hx hb hts hown hW (gI_V ev11) (F_Li_41 hts) dLi_maySendAgain_18 ?_
      refine lv_iconst hx hb dLi_maySendAgain_21 (v := (3 : Int32)) rfl ?_
      refine lv_icmp_ge hx hb dLi_maySendAgain_22 (tgt := 29) rfl (fun hc14 => ?_) (fun hc14 => ?_)
      · replace h := if_t hc14 h
        refine lv_iconst hx hb dLi_maySendAgain_29 (v := (0 : Int32)) rfl ?_
        replace h := ob h; obtain ⟨z12, ez12, h⟩ := h
        exact hq_zret hx hb hr hlocks (bz_some ez12).2 h (Nat.le_of_ble_eq_true rfl) (Nat.le_of_ble_eq_true rfl) hW dLi_maySendAgain_30
      · replace h := if_f hc14 h
        refine lv_iconst hx hb dLi_maySendAgain_25 (v := (1 : Int32)) rfl ?_
        refine lv_goto hx hb dLi_maySendAgain_26 (tgt := 30) rfl ?_
        replace h := ob h; obtain ⟨z13, ez13, h⟩ := h
        exact hq_zret hx hb hr hlocks (bz_some ez13).2 h (Nat.le_of_ble_eq_true rfl) (Nat.le_of_ble_eq_true rfl) hW dLi_maySendAgain_30
def fLi_markSending (t0 : Nat) (t1 : Int32) (S : Ws) : Option (Ws) :=
  (gI S t0 [2] 6).bind fun v1 => (pV S t0 [2] 6 (.int (v1 + (1 : Int32)))).bind fun S2 => (pV S2 t0 [2] 7 (.int t1)).bind fun S3 => (pV S3 t0 [2] 8 (.int (-1 : Int32))).bind fun S4 => some S4
set_option maxRecDepth 100000 in
set_option maxHeartbeats 4000000 in
theorem kLi_markSending (l : Launch) (D : va_G) (tc : Nat → ClassId) (b : Nat) (t0 : Nat) (t1 : Int32) (S Sz : Ws) (h : fLi_markSending t0 t1 S = some Sz) : Met l yLi_markSending wsLi_markSending { frames := 1, cells := 0, slots := 0, locals := 40 } (va_Pc [.ref t0, .int t1] (Wp D vwCl (hTy tc) b S)) (va_Qv (fun _ : Unit => True) (fun _ => Wp D vwCl (hTy tc) b Sz) (fun q => b ≤ q)) 0 0 (fun q => b ≤ q) := by
  refine hq_ofW (cc := cLi_markSending) (maxL := 2) (ret := none) (by decide) rfl (Nat.le_of_ble_eq_true rfl) fun p e s m args below meth c hx hb hr hts hown hlocks hnm hml H locs ls hl hW => ?_
  have hts : ∀ w ∈ lwG, w.before args s = true := fun w h => hts w (List.mem_cons_of_mem _ h)
  have hown : s.vm.findClass "SerialPlant$Line" = some m.cls := hown
  have hl : lv_has ls 2 [(0, .ref t0), (1, .int t1)] := hl
  unfold fLi_markSending at h
  refine lv_aload_n hx hb dLi_markSending_0 rfl (lv_at hl 0 rfl) ?_
  refine lv_dup hx hb dLi_markSending_1 rfl ?_
  replace h := ob h; obtain ⟨v1, ev1, h⟩ := h
  refine hq_get hx hb hts hown hW (gI_V ev1) (F_Li_41 hts) dLi_markSending_2 ?_
  refine lv_iconst hx hb dLi_markSending_5 (v := (1 : Int32)) rfl ?_
  refine lv_iadd hx hb dLi_markSending_6 ?_
  replace h := ob h; obtain ⟨S2, eS2, h⟩ := h
  refine hq_put hx hb hts hown hW eS2 (F_Li_41 hts) P_Li_Li_6 rfl rfl dLi_markSending_7 (fun H locs hW => ?_)
  refine lv_aload_n hx hb dLi_markSending_10 rfl (lv_at hl 0 rfl) ?_
  refine lv_iload_n hx hb dLi_markSending_11 rfl (lv_at hl 1 rfl) ?_
  replace h := ob h; obtain ⟨S3, eS3, h⟩ := h
  refine hq_put hx hb hts hown hW eS3 (F_Li_44 hts) P_Li_Li_7 rfl rfl dLi_markSending_12 (fun H locs hW => ?_)
  refine lv_aload_n hx hb dLi_markSending_15 rfl (lv_at hl 0 rfl) ?_
  refine lv_iconst hx hb dLi_markSending_16 (v := (-1 : Int32)) rfl ?_
  replace h := ob h; obtain ⟨S4, eS4, h⟩ := h
  refine hq_put hx hb hts hown hW eS4 (F_Li_27 hts) P_Li_Li_8 rfl rfl dLi_markSending_17 (fun H locs hW => ?_)
  exact hq_vret hx hb hr hlocks h (Nat.le_of_ble_eq_true rfl) (Nat.le_of_ble_eq_true rfl) hW dLi_markSending_20
def fWa_spendFault (t0 : Nat) (S : Ws) : Option (Int32 × Ws) :=
  (gI S t0 [6] 1).bind fun v1 => (bz (0 : Int32)).bind fun z3 => (pV S t0 [6] 1 (.int (0 : Int32))).bind fun S2 => (bz v1).bind fun z4 => some (v1, S2)
set_option maxRecDepth 100000 in
set_option maxHeartbeats 4000000 in
theorem kWa_spendFault (l : Launch) (D : va_G) (tc : Nat → ClassId) (b : Nat) (t0 : Nat) (S Sz : Ws) (rr : Int32) (h : fWa_spendFault t0 S = some (rr, Sz)) : Met l yWa_spendFault wsWa_spendFault { frames := 1, cells := 0, slots := 0, locals := 40 } (va_Pc [.ref t0] (Wp D vwCl (hTy tc) b S)) (va_Qi (fun x (_ : Unit) => x = rr) (fun _ => Wp D vwCl (hTy tc) b Sz) (fun q => b ≤ q)) 0 0 (fun q => b ≤ q) := by
  refine hq_ofW (cc := cWa_spendFault) (maxL := 2) (ret := (some .boolean)) (by decide) rfl (Nat.le_of_ble_eq_true rfl) fun p e s m args below meth c hx hb hr hts hown hlocks hnm hml H locs ls hl hW => ?_
  have hts : ∀ w ∈ lwG, w.before args s = true := fun w h => hts w (List.mem_cons_of_mem _ h)
  have hown : s.vm.findClass "SerialPlant$Way" = some m.cls := hown
  have hl : lv_has ls 2 [(0, .ref t0)] := hl
  unfold fWa_spendFault at h
  refine lv_aload_n hx hb dWa_spendFault_0 rfl (lv_at hl 0 rfl) ?_
  replace h := ob h; obtain ⟨v1, ev1, h⟩ := h
  refine hq_get hx hb hts hown hW (gI_V ev1) (F_Wa_16 hts) dWa_spendFault_1 ?_
  refine lv_istore_n (lv' := [(1, .int v1), (0, .ref t0)]) hx hb dWa_spendFault_4 rfl hl (Nat.le_of_ble_eq_true rfl) (by first | rfl | (simp [List.filter, rf_cat] <;> rfl)) (fun ls hl => ?_)
  refine lv_aload_n hx hb dWa_spendFault_5 rfl (lv_at hl 1 rfl) ?_
  refine lv_iconst hx hb dWa_spendFault_6 (v := (0 : Int32)) rfl ?_
  replace h := ob h; obtain ⟨z3, ez3, h⟩ := h
  replace h := ob h; obtain ⟨S2, eS2, h⟩ := h
  refine hq_put hx hb hts hown hW eS2 (F_Wa_16 hts) P_Wa_Wa_1 (bz_nar (bz_some ez3).2) (bz_fits (bz_some ez3).2) dWa_spendFault_7 (fun H locs hW => ?_)
  refine lv_iload_n hx hb dWa_spendFault_10 rfl (lv_at hl 0 rfl) ?_
  replace h := ob h; obtain ⟨z4, ez4, h⟩ := h
  exact hq_zret hx hb hr hlocks (bz_some ez4).2 h (Nat.le_of_ble_eq_true rfl) (Nat.le_of_ble_eq_true rfl) hW dWa_spendFault_11
def fLi_giveUp (t0 : Nat) (S : Ws) : Option (Ws) :=
  (gR S t0 [2] 5).bind fun r1 => (gO S t0 [2]).bind fun q3 => (fLi_release t0 S).bind fun S2 => oc r1 (some S2) (fun a4 => (gO S2 a4 [3, 4]).bind fun q7 => (fJo_isBroadcast a4 S2).bind fun (v6, S5) => if v6 = 0 then (gO S5 a4 [3, 4]).bind fun q10 => (if q10.1 = 3 then fPo_goUnanswered a4 S5 else fRe_goUnanswered a4 S5).bind fun S9 => some S9 else some S5)
set_option maxRecDepth 100000 in
set_option maxHeartbeats 4000000 in
theorem kLi_giveUp (l : Launch) (D : va_G) (tc : Nat → ClassId) (b : Nat) (t0 : Nat) (S Sz : Ws) (h : fLi_giveUp t0 S = some Sz) : Met l yLi_giveUp wsLi_giveUp { frames := 3, cells := 0, slots := 0, locals := 120 } (va_Pc [.ref t0] (Wp D vwCl (hTy tc) b S)) (va_Qv (fun _ : Unit => True) (fun _ => Wp D vwCl (hTy tc) b Sz) (fun q => b ≤ q)) 0 0 (fun q => b ≤ q) := by
  refine hq_ofW (cc := cLi_giveUp) (maxL := 2) (ret := none) (by decide) rfl (Nat.le_of_ble_eq_true rfl) fun p e s m args below meth c hx hb hr hts hown hlocks hnm hml H locs ls hl hW => ?_
  have hts : ∀ w ∈ lwG, w.before args s = true := fun w h => hts w (List.mem_cons_of_mem _ h)
  have hown : s.vm.findClass "SerialPlant$Line" = some m.cls := hown
  have hl : lv_has ls 2 [(0, .ref t0)] := hl
  unfold fLi_giveUp at h
  refine lv_aload_n hx hb dLi_giveUp_0 rfl (lv_at hl 0 rfl) ?_
  replace h := ob h; obtain ⟨r1, er1, h⟩ := h
  refine hq_get hx hb hts hown hW (gR_V er1) (F_Li_37 hts) dLi_giveUp_1 ?_
  refine hq_astore_n (x := r1) (lv' := [(1, va_rf r1), (0, .ref t0)]) hx hb dLi_giveUp_4 rfl hl (Nat.le_of_ble_eq_true rfl) (by first | rfl | (simp [List.filter, rf_cat] <;> rfl)) (fun ls hl => ?_)
  refine lv_aload_n hx hb dLi_giveUp_5 rfl (lv_at hl 1 rfl) ?_
  replace h := ob h; obtain ⟨q3, eq3, h⟩ := h
  replace h := ob h; obtain ⟨S2, eS2, h⟩ := h
  refine hq_callv (ce := 0) (sl := 0) (va_runV (As := []) (rest := []) ⟨hx, hb, hml, hown, hts⟩ (kLi_release l D tc b t0 S _ eS2) (cwV 0 hts GV_Li_51_Li rfl rfl rfl hd_Li_release_V ⟨Nat.le_of_ble_eq_true rfl, Nat.le_of_ble_eq_true rfl⟩) (hq_preV1 hW eq3 rfl rfl) rfl rfl hl.1 rfl (lv_room (by first | exact Nat.le_of_ble_eq_true rfl | (simp only [List.map, rf_cat]; exact Nat.le_of_ble_eq_true rfl))) dLi_giveUp_6 ⟨Nat.le_of_ble_eq_true rfl, Nat.le_of_ble_eq_true rfl⟩) hW rfl rfl (fun H locs hW => ?_)
  refine hq_aload_n (x := r1) hx hb dLi_giveUp_9 rfl (lv_at hl 0 rfl) ?_
  refine hq_ifnull hx hb dLi_giveUp_10 (tgt := 24) rfl (fun hc => ?_) (fun a4 hc => ?_)
  · subst hc
    replace h := oc_n h
    exact hq_vret hx hb hr hlocks h (Nat.le_of_ble_eq_true rfl) (Nat.le_of_ble_eq_true rfl) hW dLi_giveUp_24
  · subst hc
    replace h := oc_s h
    refine lv_aload_n hx hb dLi_giveUp_13 rfl (lv_at hl 0 rfl) ?_
    replace h := ob h; obtain ⟨q7, eq7, h⟩ := h
    replace h := ob h; obtain ⟨⟨v6, S5⟩, eS5, h⟩ := h
    have hR8 : va_Run p l e { frames := 3, cells := 0, slots := 0, locals := 120 } s m args below meth c H locs 0 0 0 0 (F0 m 14 ls [.ref a4]) [] (va_Qi (fun x (_ : Unit) => x = v6) (fun _ => Wp D vwCl (hTy tc) b S5) (fun q => b ≤ q) (.ref a4 :: []).toArray) (fun q => b ≤ q) := by
      rcases mem2 (gO_some eq7).2 with hq | hq
      · exact va_runU (As := []) (rest := []) ⟨hx, hb, hml, hown, hts⟩ (kJo_isBroadcast l D tc b a4 S2 _ _ eS5) (va_cwU 0 hts GU_Li_47_Po rfl rfl rfl rfl hd_Jo_isBroadcast_U ⟨Nat.le_of_ble_eq_true rfl, Nat.le_of_ble_eq_true rfl⟩) (hq_preV hW (gO_some eq7).1 (by rw [hq]; rfl) rfl) rfl rfl hl.1 rfl (lv_room (by first | exact Nat.le_of_ble_eq_true rfl | (simp only [List.map, rf_cat]; exact Nat.le_of_ble_eq_true rfl))) dLi_giveUp_14 ⟨Nat.le_of_ble_eq_true rfl, Nat.le_of_ble_eq_true rfl⟩
      · exact va_runU (As := []) (rest := []) ⟨hx, hb, hml, hown, hts⟩ (kJo_isBroadcast l D tc b a4 S2 _ _ eS5) (va_cwU 0 hts GU_Li_47_Re rfl rfl rfl rfl hd_Jo_isBroadcast_U ⟨Nat.le_of_ble_eq_true rfl, Nat.le_of_ble_eq_true rfl⟩) (hq_preV hW (gO_some eq7).1 (by rw [hq]; rfl) rfl) rfl rfl hl.1 rfl (lv_room (by first | exact Nat.le_of_ble_eq_true rfl | (simp only [List.map, rf_cat]; exact Nat.le_of_ble_eq_true rfl))) dLi_giveUp_14 ⟨Nat.le_of_ble_eq_true rfl, Nat.le_of_ble_eq_true rfl⟩
    refine hq_calli (ce := 0) (sl := 0) (hR8) hW rfl rfl (fun H locs hW => ?_)
    refine lv_if_ne hx hb dLi_giveUp_17 (tgt := 24) rfl (fun hc12 => ?_) (fun hc12 => ?_)
    · replace h := if_f hc12 h
      exact hq_vret hx hb hr hlocks h (Nat.le_of_ble_eq_true rfl) (Nat.le_of_ble_eq_true rfl) hW dLi_giveUp_24
    · replace h := if_t hc12 h
      refine lv_aload_n hx hb dLi_giveUp_20 rfl (lv_at hl 0 rfl) ?_
      replace h := ob h; obtain ⟨q10, eq10, h⟩ := h
      replace h := ob h; obtain ⟨S9, eS9, h⟩ := h
      have hR11 : va_Run p l e { frames := 3, cells := 0, slots := 0, locals := 120 } s m args below meth c H locs 0 0 0 0 (F0 m 21 ls [.ref a4]) [] (va_Qv (fun _ : Unit => True) (fun _ => Wp D vwCl (hTy tc) b S9) (fun q => b ≤ q) (.ref a4 :: []).toArray) (fun q => b ≤ q) := by
        rcases mem2 (gO_some eq10).2 with hq | hq
        · exact va_runU (As := []) (rest := []) ⟨hx, hb, hml, hown, hts⟩ (kPo_goUnanswered l D tc b a4 S5 _ (if_t hq eS9)) (va_cwA 0 hts GU_Li_54_Po rfl rfl rfl hW.nw.2.1.2 hd_Po_goUnanswered_A ⟨Nat.le_of_ble_eq_true rfl, Nat.le_of_ble_eq_true rfl⟩) (hq_preV hW (gO_some eq10).1 (by rw [hq]; rfl) rfl) rfl rfl hl.1 rfl (lv_room (by first | exact Nat.le_of_ble_eq_true rfl | (simp only [List.map, rf_cat]; exact Nat.le_of_ble_eq_true rfl))) dLi_giveUp_21 ⟨Nat.le_of_ble_eq_true rfl, Nat.le_of_ble_eq_true rfl⟩
        · exact va_runU (As := []) (rest := []) ⟨hx, hb, hml, hown, hts⟩ (kRe_goUnanswered l D tc b a4 S5 _ (if_f (by rw [hq]; decide) eS9)) (va_cwA 0 hts GU_Li_54_Re rfl rfl rfl hW.nw.2.1.2 hd_Re_goUnanswered_A ⟨Nat.le_of_ble_eq_true rfl, Nat.le_of_ble_eq_true rfl⟩) (hq_preV hW (gO_some eq10).1 (by rw [hq]; rfl) rfl) rfl rfl hl.1 rfl (lv_room (by first | exact Nat.le_of_ble_eq_true rfl | (simp only [List.map, rf_cat]; exact Nat.le_of_ble_eq_true rfl))) dLi_giveUp_21 ⟨Nat.le_of_ble_eq_true rfl, Nat.le_of_ble_eq_true rfl⟩
      refine hq_callv (ce := 0) (sl := 0) (hR11) hW rfl rfl (fun H locs hW => ?_)
      exact hq_vret hx hb hr hlocks h (Nat.le_of_ble_eq_true rfl) (Nat.le_of_ble_eq_true rfl) hW dLi_giveUp_24
def fLi_startNext_L38 (t0 : Nat) : Int32 × Ws → Option ((Int32 × Ws) ⊕ (Ws)) :=
  fun (i10, S11) => (gI S11 t0 [2] 4).bind fun v14 => if v14 ≤ i10 then some (.inr S11) else if (4 : Int32) ≤ (i10 + (1 : Int32)) then some (.inr S11) else (gR S11 t0 [2] 3).bind fun r15 => (gR S11 t0 [2] 3).bind fun r16 => (r16).bind fun a17 => (aR S11 a17 7 (i10 + (1 : Int32))).bind fun r18 => (r15).bind fun a19 => (ck S11 r18 [3, 4]).bind fun z21 => (sR S11 a19 7 i10 r18).bind fun S20 => some (.inl (i10 + 1, S20))
def fLi_startNext (t0 : Nat) (S : Ws) : Option (Int32 × Ws) :=
  (gR S t0 [2] 5).bind fun r1 => oc r1 ((gI S t0 [2] 4).bind fun v3 => if v3 = 0 then (bz (0 : Int32)).bind fun z25 => some ((0 : Int32), S) else (gR S t0 [2] 3).bind fun r4 => (r4).bind fun a5 => (aR S a5 7 (0 : Int32)).bind fun r6 => (pV S t0 [2] 5 (va_rf r6)).bind fun S7 => (gI S7 t0 [2] 4).bind fun v8 => (pV S7 t0 [2] 4 (.int (v8 - (1 : Int32)))).bind fun S9 => (lp (fLi_startNext_L38 t0) 1000 ((0 : Int32), S9)).bind fun S13 => (bz (1 : Int32)).bind fun z24 => some ((1 : Int32), S13)) (fun a2 => (bz (0 : Int32)).bind fun z27 => some ((0 : Int32), S))
set_option maxRecDepth 100000 in
set_option maxHeartbeats 4000000 in
theorem kLi_startNext (l : Launch) (D : va_G) (tc : Nat → ClassId) (b : Nat) (t0 : Nat) (S Sz : Ws) (rr : Int32) (h : fLi_startNext t0 S = some (rr, Sz)) : Met l yLi_startNext wsLi_startNext { frames := 1, cells := 0, slots := 0, locals := 40 } (va_Pc [.ref t0] (Wp D vwCl (hTy tc) b S)) (va_Qi (fun x (_ : Unit) => x = rr) (fun _ => Wp D vwCl (hTy tc) b Sz) (fun q => b ≤ q)) 0 0 (fun q => b ≤ q) := by
  refine hq_ofW (cc := cLi_startNext) (maxL := 2) (ret := (some .boolean)) (by decide) rfl (Nat.le_of_ble_eq_true rfl) fun p e s m args below meth c hx hb hr hts hown hlocks hnm hml H locs ls hl hW => ?_
  have hts : ∀ w ∈ lwG, w.before args s = true := fun w h => hts w (List.mem_cons_of_mem _ h)
  have hown : s.vm.findClass "SerialPlant$Line" = some m.cls := hown
  have hl : lv_has ls 2 [(0, .ref t0)] := hl
  unfold fLi_startNext at h
  refine lv_aload_n hx hb dLi_startNext_0 rfl (lv_at hl 0 rfl) ?_
  replace h := ob h; obtain ⟨r1, er1, h⟩ := h
  refine hq_get hx hb hts hown hW (gR_V er1) (F_Li_37 hts) dLi_startNext_1 ?_
  refine hq_ifnonnull hx hb dLi_startNext_4 (tgt := 14) rfl (fun hc => ?_) (fun a2 hc => ?_)
  · subst hc
    replace h := oc_n h
    refine lv_aload_n hx hb dLi_startNext_7 rfl (lv_at hl 0 rfl) ?_
    replace h := ob h; obtain ⟨v3, ev3, h⟩ := h
    refine hq_get hx hb hts hown hW (gI_V ev3) (F_Li_34 hts) dLi_startNext_8 ?_
    refine lv_if_ne hx hb dLi_startNext_11 (tgt := 16) rfl (fun hc26 => ?_) (fun hc26 => ?_)
    · replace h := if_f hc26 h
      refine lv_aload_n hx hb dLi_startNext_16 rfl (lv_at hl 0 rfl) ?_
      refine lv_aload_n hx hb dLi_startNext_17 rfl (lv_at hl 0 rfl) ?_
      replace h := ob h; obtain ⟨r4, er4, h⟩ := h
      refine hq_get hx hb hts hown hW (gR_V er4) (F_Li_23 hts) dLi_startNext_18 ?_
      refine lv_iconst hx hb dLi_startNext_21 (v := (0 : Int32)) rfl ?_
      replace h := ob h; obtain ⟨a5, hra5, h⟩ := h
      subst hra5
      replace h := ob h; obtain ⟨r6, er6, h⟩ := h
      refine hq_aald hx hb hW er6 rfl dLi_startNext_22 ?_
      replace h := ob h; obtain ⟨S7, eS7, h⟩ := h
      refine hq_put hx hb hts hown hW eS7 (F_Li_37 hts) P_Li_Li_5 (rf_nar r6) (rf_fit r6) dLi_startNext_23 (fun H locs hW => ?_)
      refine lv_aload_n hx hb dLi_startNext_26 rfl (lv_at hl 0 rfl) ?_
      refine lv_dup hx hb dLi_startNext_27 rfl ?_
      replace h := ob h; obtain ⟨v8, ev8, h⟩ := h
      refine hq_get hx hb hts hown hW (gI_V ev8) (F_Li_34 hts) dLi_startNext_28 ?_
      refine lv_iconst hx hb dLi_startNext_31 (v := (1 : Int32)) rfl ?_
      refine lv_isub hx hb dLi_startNext_32 ?_
      replace h := ob h; obtain ⟨S9, eS9, h⟩ := h
      refine hq_put hx hb hts hown hW eS9 (F_Li_34 hts) P_Li_Li_4 rfl rfl dLi_startNext_33 (fun H locs hW => ?_)
      refine lv_iconst hx hb dLi_startNext_36 (v := (0 : Int32)) rfl ?_
      refine lv_istore_n (lv' := [(1, .int (0 : Int32)), (0, .ref t0)]) hx hb dLi_startNext_37 rfl hl (Nat.le_of_ble_eq_true rfl) (by first | rfl | (simp [List.filter, rf_cat] <;> rfl)) (fun ls hl => ?_)
      replace h := ob h; obtain ⟨S13, eS13, h⟩ := h
      have hX : (fun q' => ∀ (H : Heap) (locs : List Loc) (ls : Array Slot), lv_has ls 2 [] → Wd D vwCl (hTy tc) b q' s H locs → W p l e { frames := 1, cells := 0, slots := 0, locals := 40 } s m args below meth c H locs 0 0 (MQ below (va_Qi (fun x (_ : Unit) => x = rr) (fun _ => Wp D vwCl (hTy tc) b Sz) (fun q => b ≤ q)) args s 0 0 (fun q => b ≤ q)) (F0 m 73 ls [])) S13 := by
        intro H locs ls hl hW
        refine lv_iconst hx hb dLi_startNext_73 (v := (1 : Int32)) rfl ?_
        replace h := ob h; obtain ⟨z24, ez24, h⟩ := h
        exact hq_zret hx hb hr hlocks (bz_some ez24).2 h (Nat.le_of_ble_eq_true rfl) (Nat.le_of_ble_eq_true rfl) hW dLi_startNext_74
      refine lp_ind (P := fun q' => ∀ (H : Heap) (locs : List Loc) (ls : Array Slot), lv_has ls 2 [(0, .ref t0), (1, .int q'.1)] → Wd D vwCl (hTy tc) b q'.2 s H locs → W p l e { frames := 1, cells := 0, slots := 0, locals := 40 } s m args below meth c H locs 0 0 (MQ below (va_Qi (fun x (_ : Unit) => x = rr) (fun _ => Wp D vwCl (hTy tc) b Sz) (fun q => b ≤ q)) args s 0 0 (fun q => b ≤ q)) (F0 m 38 ls [])) (Q := fun q' => ∀ (H : Heap) (locs : List Loc) (ls : Array Slot), lv_has ls 2 [] → Wd D vwCl (hTy tc) b q' s H locs → W p l e { frames := 1, cells := 0, slots := 0, locals := 40 } s m args below meth c H locs 0 0 (MQ below (va_Qi (fun x (_ : Unit) => x = rr) (fun _ => Wp D vwCl (hTy tc) b Sz) (fun q => b ≤ q)) args s 0 0 (fun q => b ≤ q)) (F0 m 73 ls [])) (fun q' x12 h hin hex => ?_) hX _ _ eS13 _ _ _ (lv_sub hl [1, 0] rfl) hW
      obtain ⟨i10, S11⟩ := q'
      intro H locs ls hl hW
      unfold fLi_startNext_L38 at h
      refine lv_iload_n hx hb dLi_startNext_38 rfl (lv_at hl 1 rfl) ?_
      refine lv_aload_n hx hb dLi_startNext_39 rfl (lv_at hl 0 rfl) ?_
      replace h := ob h; obtain ⟨v14, ev14, h⟩ := h
      refine hq_get hx hb hts hown hW (gI_V ev14) (F_Li_34 hts) dLi_startNext_40 ?_
      refine lv_icmp_ge hx hb dLi_startNext_43 (tgt := 73) rfl (fun hc23 => ?_) (fun hc23 => ?_)
      · replace h := if_t hc23 h
        exact hex _ (Option.some.inj h).symm _ _ _ (lv_sub hl [] rfl) hW
      · replace h := if_f hc23 h
        refine lv_iload_n hx hb dLi_startNext_46 rfl (lv_at hl 1 rfl) ?_
        refine lv_iconst hx hb dLi_startNext_47 (v := (1 : Int32)) rfl ?_
        refine lv_iadd hx hb dLi_startNext_48 ?_
        refine lv_iconst hx hb dLi_startNext_49 (v := (4 : Int32)) rfl ?_
        refine lv_icmp_ge hx hb dLi_startNext_50 (tgt := 73) rfl (fun hc22 => ?_) (fun hc22 => ?_)
        · replace h := if_t hc22 h
          exact hex _ (Option.some.inj h).symm _ _ _ (lv_sub hl [] rfl) hW
        · replace h := if_f hc22 h
          refine lv_aload_n hx hb dLi_startNext_53 rfl (lv_at hl 0 rfl) ?_
          replace h := ob h; obtain ⟨r15, er15, h⟩ := h
          refine hq_get hx hb hts hown hW (gR_V er15) (F_Li_23 hts) dLi_startNext_54 ?_
          refine lv_iload_n hx hb dLi_startNext_57 rfl (lv_at hl 1 rfl) ?_
          refine lv_aload_n hx hb dLi_startNext_58 rfl (lv_at hl 0 rfl) ?_
          replace h := ob h; obtain ⟨r16, er16, h⟩ := h
          refine hq_get hx hb hts hown hW (gR_V er16) (F_Li_23 hts) dLi_startNext_59 ?_
          refine lv_iload_n hx hb dLi_startNext_62 rfl (lv_at hl 1 rfl) ?_
          refine lv_iconst hx hb dLi_startNext_63 (v := (1 : Int32)) rfl ?_
          refine lv_iadd hx hb dLi_startNext_64 ?_
          replace h := ob h; obtain ⟨a17, hra17, h⟩ := h
          subst hra17
          replace h := ob h; obtain ⟨r18, er18, h⟩ := h
          refine hq_aald hx hb hW er18 rfl dLi_startNext_65 ?_
          replace h := ob h; obtain ⟨a19, hra19, h⟩ := h
          subst hra19
          replace h := ob h; obtain ⟨z21, ez21, h⟩ := h
          replace h := ob h; obtain ⟨S20, eS20, h⟩ := h
          refine hq_aast (x := r18) hx hb hW ez21 eS20 rfl (fk2 ⟨_, rfl, Or.inr hW.nw.2.2.1.1⟩ ⟨_, rfl, Or.inr hW.nw.2.2.1.2⟩) dLi_startNext_66 (fun H locs hW => ?_)
          refine lv_iinc (k := 1) (v := i10 + 1) (lv' := [(1, .int (i10 + 1)), (0, .ref t0)]) hx hb dLi_startNext_67 hl rfl rfl (Nat.le_of_ble_eq_true rfl) (by first | rfl | (simp [List.filter, rf_cat] <;> rfl)) (fun ls hl => ?_)
          refine lv_goto hx hb dLi_startNext_70 (tgt := 38) rfl ?_
          exact hin _ (Option.some.inj h).symm _ _ _ (lv_sub hl [1, 0] rfl) hW
    · replace h := if_t hc26 h
      refine lv_iconst hx hb dLi_startNext_14 (v := (0 : Int32)) rfl ?_
      replace h := ob h; obtain ⟨z25, ez25, h⟩ := h
      exact hq_zret hx hb hr hlocks (bz_some ez25).2 h (Nat.le_of_ble_eq_true rfl) (Nat.le_of_ble_eq_true rfl) hW dLi_startNext_15
  · subst hc
    replace h := oc_s h
    refine lv_iconst hx hb dLi_startNext_14 (v := (0 : Int32)) rfl ?_
    replace h := ob h; obtain ⟨z27, ez27, h⟩ := h
    exact hq_zret hx hb hr hlocks (bz_some ez27).2 h (Nat.le_of_ble_eq_true rfl) (Nat.le_of_ble_eq_true rfl) hW dLi_startNext_15
