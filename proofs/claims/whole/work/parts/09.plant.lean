theorem dPl_init_0 : decode cPl_init 0 = .ok (.aload_n 0, 1) := by decide +kernel
theorem dPl_init_1 : decode cPl_init 1 = .ok (.invokespecial 1, 3) := by decide +kernel
theorem dPl_init_4 : decode cPl_init 4 = .ok (.aload_n 0, 1) := by decide +kernel
theorem dPl_init_5 : decode cPl_init 5 = .ok (.bipush 6, 2) := by decide +kernel
theorem dPl_init_7 : decode cPl_init 7 = .ok (.anewarray 9, 3) := by decide +kernel
theorem dPl_init_10 : decode cPl_init 10 = .ok (.putfield 11, 3) := by decide +kernel
theorem dPl_init_13 : decode cPl_init 13 = .ok (.iconst 0, 1) := by decide +kernel
theorem dPl_init_14 : decode cPl_init 14 = .ok (.istore_n 1, 1) := by decide +kernel
theorem dPl_init_15 : decode cPl_init 15 = .ok (.iload_n 1, 1) := by decide +kernel
theorem dPl_init_16 : decode cPl_init 16 = .ok (.bipush 6, 2) := by decide +kernel
theorem dPl_init_18 : decode cPl_init 18 = .ok (.if_icmp .ge 25, 3) := by decide +kernel
theorem dPl_init_21 : decode cPl_init 21 = .ok (.aload_n 0, 1) := by decide +kernel
theorem dPl_init_22 : decode cPl_init 22 = .ok (.getfield 11, 3) := by decide +kernel
theorem dPl_init_25 : decode cPl_init 25 = .ok (.iload_n 1, 1) := by decide +kernel
theorem dPl_init_26 : decode cPl_init 26 = .ok (.new 9, 3) := by decide +kernel
theorem dPl_init_29 : decode cPl_init 29 = .ok (.dup, 1) := by decide +kernel
theorem dPl_init_30 : decode cPl_init 30 = .ok (.iload_n 1, 1) := by decide +kernel
theorem dPl_init_31 : decode cPl_init 31 = .ok (.iconst 1, 1) := by decide +kernel
theorem dPl_init_32 : decode cPl_init 32 = .ok (.iadd, 1) := by decide +kernel
theorem dPl_init_33 : decode cPl_init 33 = .ok (.invokespecial 15, 3) := by decide +kernel
theorem dPl_init_36 : decode cPl_init 36 = .ok (.aastore, 1) := by decide +kernel
theorem dPl_init_37 : decode cPl_init 37 = .ok (.iinc 1 1, 3) := by decide +kernel
theorem dPl_init_40 : decode cPl_init 40 = .ok (.goto (-25), 3) := by decide +kernel
theorem dPl_init_43 : decode cPl_init 43 = .ok (.aload_n 0, 1) := by decide +kernel
theorem dPl_init_44 : decode cPl_init 44 = .ok (.iconst 2, 1) := by decide +kernel
theorem dPl_init_45 : decode cPl_init 45 = .ok (.anewarray 18, 3) := by decide +kernel
theorem dPl_init_48 : decode cPl_init 48 = .ok (.putfield 20, 3) := by decide +kernel
theorem dPl_init_51 : decode cPl_init 51 = .ok (.iconst 0, 1) := by decide +kernel
theorem dPl_init_52 : decode cPl_init 52 = .ok (.istore_n 1, 1) := by decide +kernel
theorem dPl_init_53 : decode cPl_init 53 = .ok (.iload_n 1, 1) := by decide +kernel
theorem dPl_init_54 : decode cPl_init 54 = .ok (.iconst 2, 1) := by decide +kernel
theorem dPl_init_55 : decode cPl_init 55 = .ok (.if_icmp .ge 23, 3) := by decide +kernel
theorem dPl_init_58 : decode cPl_init 58 = .ok (.aload_n 0, 1) := by decide +kernel
theorem dPl_init_59 : decode cPl_init 59 = .ok (.getfield 20, 3) := by decide +kernel
theorem dPl_init_62 : decode cPl_init 62 = .ok (.iload_n 1, 1) := by decide +kernel
theorem dPl_init_63 : decode cPl_init 63 = .ok (.new 18, 3) := by decide +kernel
theorem dPl_init_66 : decode cPl_init 66 = .ok (.dup, 1) := by decide +kernel
theorem dPl_init_67 : decode cPl_init 67 = .ok (.iload_n 1, 1) := by decide +kernel
theorem dPl_init_68 : decode cPl_init 68 = .ok (.invokespecial 24, 3) := by decide +kernel
theorem dPl_init_71 : decode cPl_init 71 = .ok (.aastore, 1) := by decide +kernel
theorem dPl_init_72 : decode cPl_init 72 = .ok (.iinc 1 1, 3) := by decide +kernel
theorem dPl_init_75 : decode cPl_init 75 = .ok (.goto (-22), 3) := by decide +kernel
theorem dPl_init_78 : decode cPl_init 78 = .ok (.aload_n 0, 1) := by decide +kernel
theorem dPl_init_79 : decode cPl_init 79 = .ok (.bipush 64, 2) := by decide +kernel
theorem dPl_init_81 : decode cPl_init 81 = .ok (.anewarray 25, 3) := by decide +kernel
theorem dPl_init_84 : decode cPl_init 84 = .ok (.putfield 27, 3) := by decide +kernel
theorem dPl_init_87 : decode cPl_init 87 = .ok (.aload_n 0, 1) := by decide +kernel
theorem dPl_init_88 : decode cPl_init 88 = .ok (.iconst 4, 1) := by decide +kernel
theorem dPl_init_89 : decode cPl_init 89 = .ok (.anewarray 31, 3) := by decide +kernel
theorem dPl_init_92 : decode cPl_init 92 = .ok (.putfield 33, 3) := by decide +kernel
theorem dPl_init_95 : decode cPl_init 95 = .ok (.aload_n 0, 1) := by decide +kernel
theorem dPl_init_96 : decode cPl_init 96 = .ok (.new 37, 3) := by decide +kernel
theorem dPl_init_99 : decode cPl_init 99 = .ok (.dup, 1) := by decide +kernel
theorem dPl_init_100 : decode cPl_init 100 = .ok (.invokespecial 39, 3) := by decide +kernel
theorem dPl_init_103 : decode cPl_init 103 = .ok (.putfield 40, 3) := by decide +kernel
theorem dPl_init_106 : decode cPl_init 106 = .ok (.return_, 1) := by decide +kernel
theorem dPl_isSlave_0 : decode cPl_isSlave 0 = .ok (.iload_n 0, 1) := by decide +kernel
theorem dPl_isSlave_1 : decode cPl_isSlave 1 = .ok (.iconst 1, 1) := by decide +kernel
theorem dPl_isSlave_2 : decode cPl_isSlave 2 = .ok (.if_icmp .lt 13, 3) := by decide +kernel
theorem dPl_isSlave_5 : decode cPl_isSlave 5 = .ok (.iload_n 0, 1) := by decide +kernel
theorem dPl_isSlave_6 : decode cPl_isSlave 6 = .ok (.bipush 6, 2) := by decide +kernel
theorem dPl_isSlave_8 : decode cPl_isSlave 8 = .ok (.if_icmp .gt 7, 3) := by decide +kernel
theorem dPl_isSlave_11 : decode cPl_isSlave 11 = .ok (.iconst 1, 1) := by decide +kernel
theorem dPl_isSlave_12 : decode cPl_isSlave 12 = .ok (.goto 4, 3) := by decide +kernel
theorem dPl_isSlave_15 : decode cPl_isSlave 15 = .ok (.iconst 0, 1) := by decide +kernel
theorem dPl_isSlave_16 : decode cPl_isSlave 16 = .ok (.ireturn, 1) := by decide +kernel
theorem dPl_isLine_0 : decode cPl_isLine 0 = .ok (.iload_n 0, 1) := by decide +kernel
theorem dPl_isLine_1 : decode cPl_isLine 1 = .ok (.ifCond .lt 12, 3) := by decide +kernel
theorem dPl_isLine_4 : decode cPl_isLine 4 = .ok (.iload_n 0, 1) := by decide +kernel
theorem dPl_isLine_5 : decode cPl_isLine 5 = .ok (.iconst 2, 1) := by decide +kernel
theorem dPl_isLine_6 : decode cPl_isLine 6 = .ok (.if_icmp .ge 7, 3) := by decide +kernel
theorem dPl_isLine_9 : decode cPl_isLine 9 = .ok (.iconst 1, 1) := by decide +kernel
theorem dPl_isLine_10 : decode cPl_isLine 10 = .ok (.goto 4, 3) := by decide +kernel
theorem dPl_isLine_13 : decode cPl_isLine 13 = .ok (.iconst 0, 1) := by decide +kernel
theorem dPl_isLine_14 : decode cPl_isLine 14 = .ok (.ireturn, 1) := by decide +kernel
theorem dPl_isWithin_0 : decode cPl_isWithin 0 = .ok (.iload_n 0, 1) := by decide +kernel
theorem dPl_isWithin_1 : decode cPl_isWithin 1 = .ok (.ifCond .lt 12, 3) := by decide +kernel
theorem dPl_isWithin_4 : decode cPl_isWithin 4 = .ok (.iload_n 0, 1) := by decide +kernel
theorem dPl_isWithin_5 : decode cPl_isWithin 5 = .ok (.iload_n 1, 1) := by decide +kernel
theorem dPl_isWithin_6 : decode cPl_isWithin 6 = .ok (.if_icmp .gt 7, 3) := by decide +kernel
theorem dPl_isWithin_9 : decode cPl_isWithin 9 = .ok (.iconst 1, 1) := by decide +kernel
theorem dPl_isWithin_10 : decode cPl_isWithin 10 = .ok (.goto 4, 3) := by decide +kernel
theorem dPl_isWithin_13 : decode cPl_isWithin 13 = .ok (.iconst 0, 1) := by decide +kernel
theorem dPl_isWithin_14 : decode cPl_isWithin 14 = .ok (.ireturn, 1) := by decide +kernel
theorem dPl_attach_0 : decode cPl_attach 0 = .ok (.iload_n 1, 1) := by decide +kernel
theorem dPl_attach_1 : decode cPl_attach 1 = .ok (.invokestatic 44, 3) := by decide +kernel
theorem dPl_attach_4 : decode cPl_attach 4 = .ok (.ifCond .eq 18, 3) := by decide +kernel
theorem dPl_attach_7 : decode cPl_attach 7 = .ok (.iload_n 2, 1) := by decide +kernel
theorem dPl_attach_8 : decode cPl_attach 8 = .ok (.invokestatic 48, 3) := by decide +kernel
theorem dPl_attach_11 : decode cPl_attach 11 = .ok (.ifCond .eq 11, 3) := by decide +kernel
theorem dPl_attach_14 : decode cPl_attach 14 = .ok (.iload_n 3, 1) := by decide +kernel
theorem dPl_attach_15 : decode cPl_attach 15 = .ok (.iconst 5, 1) := by decide +kernel
theorem dPl_attach_16 : decode cPl_attach 16 = .ok (.invokestatic 51, 3) := by decide +kernel
theorem dPl_attach_19 : decode cPl_attach 19 = .ok (.ifCond .ne 5, 3) := by decide +kernel
theorem dPl_attach_22 : decode cPl_attach 22 = .ok (.iconst 0, 1) := by decide +kernel
theorem dPl_attach_23 : decode cPl_attach 23 = .ok (.ireturn, 1) := by decide +kernel
theorem dPl_attach_24 : decode cPl_attach 24 = .ok (.aload_n 0, 1) := by decide +kernel
theorem dPl_attach_25 : decode cPl_attach 25 = .ok (.getfield 11, 3) := by decide +kernel
theorem dPl_attach_28 : decode cPl_attach 28 = .ok (.iload_n 1, 1) := by decide +kernel
theorem dPl_attach_29 : decode cPl_attach 29 = .ok (.iconst 1, 1) := by decide +kernel
theorem dPl_attach_30 : decode cPl_attach 30 = .ok (.isub, 1) := by decide +kernel
theorem dPl_attach_31 : decode cPl_attach 31 = .ok (.aaload, 1) := by decide +kernel
theorem dPl_attach_32 : decode cPl_attach 32 = .ok (.astore 4, 2) := by decide +kernel
theorem dPl_attach_34 : decode cPl_attach 34 = .ok (.aload 4, 2) := by decide +kernel
theorem dPl_attach_36 : decode cPl_attach 36 = .ok (.invokevirtual 55, 3) := by decide +kernel
theorem dPl_attach_39 : decode cPl_attach 39 = .ok (.ifCond .eq 5, 3) := by decide +kernel
theorem dPl_attach_42 : decode cPl_attach 42 = .ok (.iconst 0, 1) := by decide +kernel
theorem dPl_attach_43 : decode cPl_attach 43 = .ok (.ireturn, 1) := by decide +kernel
theorem dPl_attach_44 : decode cPl_attach 44 = .ok (.aload 4, 2) := by decide +kernel
theorem dPl_attach_46 : decode cPl_attach 46 = .ok (.iload_n 2, 1) := by decide +kernel
theorem dPl_attach_47 : decode cPl_attach 47 = .ok (.putfield 59, 3) := by decide +kernel
theorem dPl_attach_50 : decode cPl_attach 50 = .ok (.aload 4, 2) := by decide +kernel
theorem dPl_attach_52 : decode cPl_attach 52 = .ok (.iload_n 3, 1) := by decide +kernel
theorem dPl_attach_53 : decode cPl_attach 53 = .ok (.putfield 63, 3) := by decide +kernel
theorem dPl_attach_56 : decode cPl_attach 56 = .ok (.iconst 1, 1) := by decide +kernel
theorem dPl_attach_57 : decode cPl_attach 57 = .ok (.ireturn, 1) := by decide +kernel
theorem dPl_power_0 : decode cPl_power 0 = .ok (.iload_n 1, 1) := by decide +kernel
theorem dPl_power_1 : decode cPl_power 1 = .ok (.invokestatic 44, 3) := by decide +kernel
theorem dPl_power_4 : decode cPl_power 4 = .ok (.ifCond .ne 5, 3) := by decide +kernel
theorem dPl_power_7 : decode cPl_power 7 = .ok (.iconst 0, 1) := by decide +kernel
theorem dPl_power_8 : decode cPl_power 8 = .ok (.ireturn, 1) := by decide +kernel
theorem dPl_power_9 : decode cPl_power 9 = .ok (.aload_n 0, 1) := by decide +kernel
theorem dPl_power_10 : decode cPl_power 10 = .ok (.getfield 11, 3) := by decide +kernel
theorem dPl_power_13 : decode cPl_power 13 = .ok (.iload_n 1, 1) := by decide +kernel
theorem dPl_power_14 : decode cPl_power 14 = .ok (.iconst 1, 1) := by decide +kernel
theorem dPl_power_15 : decode cPl_power 15 = .ok (.isub, 1) := by decide +kernel
theorem dPl_power_16 : decode cPl_power 16 = .ok (.aaload, 1) := by decide +kernel
theorem dPl_power_17 : decode cPl_power 17 = .ok (.iload_n 2, 1) := by decide +kernel
theorem dPl_power_18 : decode cPl_power 18 = .ok (.putfield 66, 3) := by decide +kernel
theorem dPl_power_21 : decode cPl_power 21 = .ok (.iconst 1, 1) := by decide +kernel
theorem dPl_power_22 : decode cPl_power 22 = .ok (.ireturn, 1) := by decide +kernel
theorem dPl_isPlace_0 : decode cPl_isPlace 0 = .ok (.iload_n 1, 1) := by decide +kernel
theorem dPl_isPlace_1 : decode cPl_isPlace 1 = .ok (.ifCond .lt 13, 3) := by decide +kernel
theorem dPl_isPlace_4 : decode cPl_isPlace 4 = .ok (.iload_n 1, 1) := by decide +kernel
theorem dPl_isPlace_5 : decode cPl_isPlace 5 = .ok (.aload_n 0, 1) := by decide +kernel
theorem dPl_isPlace_6 : decode cPl_isPlace 6 = .ok (.arraylength, 1) := by decide +kernel
theorem dPl_isPlace_7 : decode cPl_isPlace 7 = .ok (.if_icmp .ge 7, 3) := by decide +kernel
theorem dPl_isPlace_10 : decode cPl_isPlace 10 = .ok (.iconst 1, 1) := by decide +kernel
theorem dPl_isPlace_11 : decode cPl_isPlace 11 = .ok (.goto 4, 3) := by decide +kernel
theorem dPl_isPlace_14 : decode cPl_isPlace 14 = .ok (.iconst 0, 1) := by decide +kernel
theorem dPl_isPlace_15 : decode cPl_isPlace 15 = .ok (.ireturn, 1) := by decide +kernel
theorem dPl_process_0 : decode cPl_process 0 = .ok (.iload_n 1, 1) := by decide +kernel
theorem dPl_process_1 : decode cPl_process 1 = .ok (.invokestatic 44, 3) := by decide +kernel
theorem dPl_process_4 : decode cPl_process 4 = .ok (.ifCond .eq 13, 3) := by decide +kernel
theorem dPl_process_7 : decode cPl_process 7 = .ok (.iload_n 2, 1) := by decide +kernel
theorem dPl_process_8 : decode cPl_process 8 = .ok (.iconst 2, 1) := by decide +kernel
theorem dPl_process_9 : decode cPl_process 9 = .ok (.if_icmp .eq 10, 3) := by decide +kernel
theorem dPl_process_12 : decode cPl_process 12 = .ok (.iload_n 2, 1) := by decide +kernel
theorem dPl_process_13 : decode cPl_process 13 = .ok (.iconst 4, 1) := by decide +kernel
theorem dPl_process_14 : decode cPl_process 14 = .ok (.if_icmp .eq 5, 3) := by decide +kernel
theorem dPl_process_17 : decode cPl_process 17 = .ok (.iconst 0, 1) := by decide +kernel
theorem dPl_process_18 : decode cPl_process 18 = .ok (.ireturn, 1) := by decide +kernel
theorem dPl_process_19 : decode cPl_process 19 = .ok (.aload_n 0, 1) := by decide +kernel
theorem dPl_process_20 : decode cPl_process 20 = .ok (.getfield 11, 3) := by decide +kernel
theorem dPl_process_23 : decode cPl_process 23 = .ok (.iload_n 1, 1) := by decide +kernel
theorem dPl_process_24 : decode cPl_process 24 = .ok (.iconst 1, 1) := by decide +kernel
theorem dPl_process_25 : decode cPl_process 25 = .ok (.isub, 1) := by decide +kernel
theorem dPl_process_26 : decode cPl_process 26 = .ok (.aaload, 1) := by decide +kernel
theorem dPl_process_27 : decode cPl_process 27 = .ok (.iload_n 2, 1) := by decide +kernel
theorem dPl_process_28 : decode cPl_process 28 = .ok (.invokevirtual 70, 3) := by decide +kernel
theorem dPl_process_31 : decode cPl_process 31 = .ok (.astore 5, 2) := by decide +kernel
theorem dPl_process_33 : decode cPl_process 33 = .ok (.iload_n 2, 1) := by decide +kernel
theorem dPl_process_34 : decode cPl_process 34 = .ok (.iconst 2, 1) := by decide +kernel
theorem dPl_process_35 : decode cPl_process 35 = .ok (.if_icmp .ne 7, 3) := by decide +kernel
theorem dPl_process_38 : decode cPl_process 38 = .ok (.iconst 1, 1) := by decide +kernel
theorem dPl_process_39 : decode cPl_process 39 = .ok (.goto 5, 3) := by decide +kernel
theorem dPl_process_42 : decode cPl_process 42 = .ok (.ldc 74, 2) := by decide +kernel
theorem dPl_process_44 : decode cPl_process 44 = .ok (.istore 6, 2) := by decide +kernel
theorem dPl_process_46 : decode cPl_process 46 = .ok (.aload 5, 2) := by decide +kernel
theorem dPl_process_48 : decode cPl_process 48 = .ok (.iload_n 3, 1) := by decide +kernel
theorem dPl_process_49 : decode cPl_process 49 = .ok (.invokestatic 75, 3) := by decide +kernel
theorem dPl_process_52 : decode cPl_process 52 = .ok (.ifCond .eq 13, 3) := by decide +kernel
theorem dPl_process_55 : decode cPl_process 55 = .ok (.iload 4, 2) := by decide +kernel
theorem dPl_process_57 : decode cPl_process 57 = .ok (.iload 6, 2) := by decide +kernel
theorem dPl_process_59 : decode cPl_process 59 = .ok (.invokestatic 51, 3) := by decide +kernel
theorem dPl_process_62 : decode cPl_process 62 = .ok (.ifCond .ne 5, 3) := by decide +kernel
theorem dPl_process_65 : decode cPl_process 65 = .ok (.iconst 0, 1) := by decide +kernel
theorem dPl_process_66 : decode cPl_process 66 = .ok (.ireturn, 1) := by decide +kernel
theorem dPl_process_67 : decode cPl_process 67 = .ok (.aload 5, 2) := by decide +kernel
theorem dPl_process_69 : decode cPl_process 69 = .ok (.iload_n 3, 1) := by decide +kernel
theorem dPl_process_70 : decode cPl_process 70 = .ok (.iload 4, 2) := by decide +kernel
theorem dPl_process_72 : decode cPl_process 72 = .ok (.iastore, 1) := by decide +kernel
theorem dPl_process_73 : decode cPl_process 73 = .ok (.iconst 1, 1) := by decide +kernel
theorem dPl_process_74 : decode cPl_process 74 = .ok (.ireturn, 1) := by decide +kernel
theorem dPl_cell_0 : decode cPl_cell 0 = .ok (.iload_n 1, 1) := by decide +kernel
theorem dPl_cell_1 : decode cPl_cell 1 = .ok (.invokestatic 44, 3) := by decide +kernel
theorem dPl_cell_4 : decode cPl_cell 4 = .ok (.ifCond .eq 13, 3) := by decide +kernel
theorem dPl_cell_7 : decode cPl_cell 7 = .ok (.iload_n 2, 1) := by decide +kernel
theorem dPl_cell_8 : decode cPl_cell 8 = .ok (.iconst 1, 1) := by decide +kernel
theorem dPl_cell_9 : decode cPl_cell 9 = .ok (.if_icmp .lt 8, 3) := by decide +kernel
theorem dPl_cell_12 : decode cPl_cell 12 = .ok (.iload_n 2, 1) := by decide +kernel
theorem dPl_cell_13 : decode cPl_cell 13 = .ok (.iconst 4, 1) := by decide +kernel
theorem dPl_cell_14 : decode cPl_cell 14 = .ok (.if_icmp .le 5, 3) := by decide +kernel
theorem dPl_cell_17 : decode cPl_cell 17 = .ok (.iconst (-1), 1) := by decide +kernel
theorem dPl_cell_18 : decode cPl_cell 18 = .ok (.ireturn, 1) := by decide +kernel
theorem dPl_cell_19 : decode cPl_cell 19 = .ok (.aload_n 0, 1) := by decide +kernel
theorem dPl_cell_20 : decode cPl_cell 20 = .ok (.getfield 11, 3) := by decide +kernel
theorem dPl_cell_23 : decode cPl_cell 23 = .ok (.iload_n 1, 1) := by decide +kernel
theorem dPl_cell_24 : decode cPl_cell 24 = .ok (.iconst 1, 1) := by decide +kernel
theorem dPl_cell_25 : decode cPl_cell 25 = .ok (.isub, 1) := by decide +kernel
theorem dPl_cell_26 : decode cPl_cell 26 = .ok (.aaload, 1) := by decide +kernel
theorem dPl_cell_27 : decode cPl_cell 27 = .ok (.iload_n 2, 1) := by decide +kernel
theorem dPl_cell_28 : decode cPl_cell 28 = .ok (.invokevirtual 70, 3) := by decide +kernel
theorem dPl_cell_31 : decode cPl_cell 31 = .ok (.astore 4, 2) := by decide +kernel
theorem dPl_cell_33 : decode cPl_cell 33 = .ok (.aload 4, 2) := by decide +kernel
theorem dPl_cell_35 : decode cPl_cell 35 = .ok (.iload_n 3, 1) := by decide +kernel
theorem dPl_cell_36 : decode cPl_cell 36 = .ok (.invokestatic 75, 3) := by decide +kernel
theorem dPl_cell_39 : decode cPl_cell 39 = .ok (.ifCond .eq 10, 3) := by decide +kernel
theorem dPl_cell_42 : decode cPl_cell 42 = .ok (.aload 4, 2) := by decide +kernel
theorem dPl_cell_44 : decode cPl_cell 44 = .ok (.iload_n 3, 1) := by decide +kernel
theorem dPl_cell_45 : decode cPl_cell 45 = .ok (.iaload, 1) := by decide +kernel
theorem dPl_cell_46 : decode cPl_cell 46 = .ok (.goto 4, 3) := by decide +kernel
theorem dPl_cell_49 : decode cPl_cell 49 = .ok (.iconst (-1), 1) := by decide +kernel
theorem dPl_cell_50 : decode cPl_cell 50 = .ok (.ireturn, 1) := by decide +kernel
theorem dPl_isAttachedSlave_0 : decode cPl_isAttachedSlave 0 = .ok (.iload_n 1, 1) := by decide +kernel
theorem dPl_isAttachedSlave_1 : decode cPl_isAttachedSlave 1 = .ok (.invokestatic 44, 3) := by decide +kernel
theorem dPl_isAttachedSlave_4 : decode cPl_isAttachedSlave 4 = .ok (.ifCond .eq 21, 3) := by decide +kernel
theorem dPl_isAttachedSlave_7 : decode cPl_isAttachedSlave 7 = .ok (.aload_n 0, 1) := by decide +kernel
theorem dPl_isAttachedSlave_8 : decode cPl_isAttachedSlave 8 = .ok (.getfield 11, 3) := by decide +kernel
theorem dPl_isAttachedSlave_11 : decode cPl_isAttachedSlave 11 = .ok (.iload_n 1, 1) := by decide +kernel
theorem dPl_isAttachedSlave_12 : decode cPl_isAttachedSlave 12 = .ok (.iconst 1, 1) := by decide +kernel
theorem dPl_isAttachedSlave_13 : decode cPl_isAttachedSlave 13 = .ok (.isub, 1) := by decide +kernel
theorem dPl_isAttachedSlave_14 : decode cPl_isAttachedSlave 14 = .ok (.aaload, 1) := by decide +kernel
theorem dPl_isAttachedSlave_15 : decode cPl_isAttachedSlave 15 = .ok (.invokevirtual 55, 3) := by decide +kernel
theorem dPl_isAttachedSlave_18 : decode cPl_isAttachedSlave 18 = .ok (.ifCond .eq 7, 3) := by decide +kernel
theorem dPl_isAttachedSlave_21 : decode cPl_isAttachedSlave 21 = .ok (.iconst 1, 1) := by decide +kernel
theorem dPl_isAttachedSlave_22 : decode cPl_isAttachedSlave 22 = .ok (.goto 4, 3) := by decide +kernel
theorem dPl_isAttachedSlave_25 : decode cPl_isAttachedSlave 25 = .ok (.iconst 0, 1) := by decide +kernel
theorem dPl_isAttachedSlave_26 : decode cPl_isAttachedSlave 26 = .ok (.ireturn, 1) := by decide +kernel
theorem dPl_point_0 : decode cPl_point 0 = .ok (.aload_n 0, 1) := by decide +kernel
theorem dPl_point_1 : decode cPl_point 1 = .ok (.iload_n 1, 1) := by decide +kernel
theorem dPl_point_2 : decode cPl_point 2 = .ok (.invokevirtual 79, 3) := by decide +kernel
theorem dPl_point_5 : decode cPl_point 5 = .ok (.ifCond .eq 11, 3) := by decide +kernel
theorem dPl_point_8 : decode cPl_point 8 = .ok (.aload_n 0, 1) := by decide +kernel
theorem dPl_point_9 : decode cPl_point 9 = .ok (.getfield 82, 3) := by decide +kernel
theorem dPl_point_12 : decode cPl_point 12 = .ok (.iconst 4, 1) := by decide +kernel
theorem dPl_point_13 : decode cPl_point 13 = .ok (.if_icmp .lt 5, 3) := by decide +kernel
theorem dPl_point_16 : decode cPl_point 16 = .ok (.iconst (-1), 1) := by decide +kernel
theorem dPl_point_17 : decode cPl_point 17 = .ok (.ireturn, 1) := by decide +kernel
theorem dPl_point_18 : decode cPl_point 18 = .ok (.iload_n 2, 1) := by decide +kernel
theorem dPl_point_19 : decode cPl_point 19 = .ok (.iconst 3, 1) := by decide +kernel
theorem dPl_point_20 : decode cPl_point 20 = .ok (.if_icmp .eq 8, 3) := by decide +kernel
theorem dPl_point_23 : decode cPl_point 23 = .ok (.iload_n 2, 1) := by decide +kernel
theorem dPl_point_24 : decode cPl_point 24 = .ok (.iconst 4, 1) := by decide +kernel
theorem dPl_point_25 : decode cPl_point 25 = .ok (.if_icmp .ne 12, 3) := by decide +kernel
theorem dPl_point_28 : decode cPl_point 28 = .ok (.iload_n 3, 1) := by decide +kernel
theorem dPl_point_29 : decode cPl_point 29 = .ok (.bipush 7, 2) := by decide +kernel
theorem dPl_point_31 : decode cPl_point 31 = .ok (.invokestatic 51, 3) := by decide +kernel
theorem dPl_point_34 : decode cPl_point 34 = .ok (.ifCond .ne 5, 3) := by decide +kernel
theorem dPl_point_37 : decode cPl_point 37 = .ok (.iconst (-1), 1) := by decide +kernel
theorem dPl_point_38 : decode cPl_point 38 = .ok (.ireturn, 1) := by decide +kernel
theorem dPl_point_39 : decode cPl_point 39 = .ok (.aload_n 0, 1) := by decide +kernel
theorem dPl_point_40 : decode cPl_point 40 = .ok (.getfield 82, 3) := by decide +kernel
theorem dPl_point_43 : decode cPl_point 43 = .ok (.istore 4, 2) := by decide +kernel
theorem dPl_point_45 : decode cPl_point 45 = .ok (.aload_n 0, 1) := by decide +kernel
theorem dPl_point_46 : decode cPl_point 46 = .ok (.getfield 33, 3) := by decide +kernel
theorem dPl_point_49 : decode cPl_point 49 = .ok (.iload 4, 2) := by decide +kernel
theorem dPl_point_51 : decode cPl_point 51 = .ok (.new 31, 3) := by decide +kernel
theorem dPl_point_54 : decode cPl_point 54 = .ok (.dup, 1) := by decide +kernel
theorem dPl_point_55 : decode cPl_point 55 = .ok (.iload 4, 2) := by decide +kernel
theorem dPl_point_57 : decode cPl_point 57 = .ok (.iload_n 1, 1) := by decide +kernel
theorem dPl_point_58 : decode cPl_point 58 = .ok (.iload_n 2, 1) := by decide +kernel
theorem dPl_point_59 : decode cPl_point 59 = .ok (.iload_n 3, 1) := by decide +kernel
theorem dPl_point_60 : decode cPl_point 60 = .ok (.aload_n 0, 1) := by decide +kernel
theorem dPl_point_61 : decode cPl_point 61 = .ok (.getfield 40, 3) := by decide +kernel
theorem dPl_point_64 : decode cPl_point 64 = .ok (.invokespecial 85, 3) := by decide +kernel
theorem dPl_point_67 : decode cPl_point 67 = .ok (.aastore, 1) := by decide +kernel
theorem dPl_point_68 : decode cPl_point 68 = .ok (.aload_n 0, 1) := by decide +kernel
theorem dPl_point_69 : decode cPl_point 69 = .ok (.dup, 1) := by decide +kernel
theorem dPl_point_70 : decode cPl_point 70 = .ok (.getfield 82, 3) := by decide +kernel
theorem dPl_point_73 : decode cPl_point 73 = .ok (.iconst 1, 1) := by decide +kernel
theorem dPl_point_74 : decode cPl_point 74 = .ok (.iadd, 1) := by decide +kernel
theorem dPl_point_75 : decode cPl_point 75 = .ok (.putfield 82, 3) := by decide +kernel
theorem dPl_point_78 : decode cPl_point 78 = .ok (.iload 4, 2) := by decide +kernel
theorem dPl_point_80 : decode cPl_point 80 = .ok (.ireturn, 1) := by decide +kernel
theorem dPl_enqueue_0 : decode cPl_enqueue 0 = .ok (.aload_n 0, 1) := by decide +kernel
theorem dPl_enqueue_1 : decode cPl_enqueue 1 = .ok (.aload_n 1, 1) := by decide +kernel
theorem dPl_enqueue_2 : decode cPl_enqueue 2 = .ok (.getfield 176, 3) := by decide +kernel
theorem dPl_enqueue_5 : decode cPl_enqueue 5 = .ok (.invokevirtual 79, 3) := by decide +kernel
theorem dPl_enqueue_8 : decode cPl_enqueue 8 = .ok (.ifCond .ne 5, 3) := by decide +kernel
theorem dPl_enqueue_11 : decode cPl_enqueue 11 = .ok (.iconst 0, 1) := by decide +kernel
theorem dPl_enqueue_12 : decode cPl_enqueue 12 = .ok (.ireturn, 1) := by decide +kernel
theorem dPl_enqueue_13 : decode cPl_enqueue 13 = .ok (.aload_n 0, 1) := by decide +kernel
theorem dPl_enqueue_14 : decode cPl_enqueue 14 = .ok (.getfield 11, 3) := by decide +kernel
theorem dPl_enqueue_17 : decode cPl_enqueue 17 = .ok (.aload_n 1, 1) := by decide +kernel
theorem dPl_enqueue_18 : decode cPl_enqueue 18 = .ok (.getfield 176, 3) := by decide +kernel
theorem dPl_enqueue_21 : decode cPl_enqueue 21 = .ok (.iconst 1, 1) := by decide +kernel
theorem dPl_enqueue_22 : decode cPl_enqueue 22 = .ok (.isub, 1) := by decide +kernel
theorem dPl_enqueue_23 : decode cPl_enqueue 23 = .ok (.aaload, 1) := by decide +kernel
theorem dPl_enqueue_24 : decode cPl_enqueue 24 = .ok (.getfield 59, 3) := by decide +kernel
theorem dPl_enqueue_27 : decode cPl_enqueue 27 = .ok (.istore_n 2, 1) := by decide +kernel
theorem dPl_enqueue_28 : decode cPl_enqueue 28 = .ok (.iload_n 2, 1) := by decide +kernel
theorem dPl_enqueue_29 : decode cPl_enqueue 29 = .ok (.invokestatic 48, 3) := by decide +kernel
theorem dPl_enqueue_32 : decode cPl_enqueue 32 = .ok (.ifCond .eq 20, 3) := by decide +kernel
theorem dPl_enqueue_35 : decode cPl_enqueue 35 = .ok (.aload_n 0, 1) := by decide +kernel
theorem dPl_enqueue_36 : decode cPl_enqueue 36 = .ok (.getfield 20, 3) := by decide +kernel
theorem dPl_enqueue_39 : decode cPl_enqueue 39 = .ok (.iload_n 2, 1) := by decide +kernel
theorem dPl_enqueue_40 : decode cPl_enqueue 40 = .ok (.aaload, 1) := by decide +kernel
theorem dPl_enqueue_41 : decode cPl_enqueue 41 = .ok (.aload_n 1, 1) := by decide +kernel
theorem dPl_enqueue_42 : decode cPl_enqueue 42 = .ok (.invokevirtual 168, 3) := by decide +kernel
theorem dPl_enqueue_45 : decode cPl_enqueue 45 = .ok (.ifCond .eq 7, 3) := by decide +kernel
theorem dPl_enqueue_48 : decode cPl_enqueue 48 = .ok (.iconst 1, 1) := by decide +kernel
theorem dPl_enqueue_49 : decode cPl_enqueue 49 = .ok (.goto 4, 3) := by decide +kernel
theorem dPl_enqueue_52 : decode cPl_enqueue 52 = .ok (.iconst 0, 1) := by decide +kernel
theorem dPl_enqueue_53 : decode cPl_enqueue 53 = .ok (.ireturn, 1) := by decide +kernel
theorem dPl_accept_0 : decode cPl_accept 0 = .ok (.aload_n 1, 1) := by decide +kernel
theorem dPl_accept_1 : decode cPl_accept 1 = .ok (.invokevirtual 165, 3) := by decide +kernel
theorem dPl_accept_4 : decode cPl_accept 4 = .ok (.ifCond .eq 35, 3) := by decide +kernel
theorem dPl_accept_7 : decode cPl_accept 7 = .ok (.aload_n 1, 1) := by decide +kernel
theorem dPl_accept_8 : decode cPl_accept 8 = .ok (.iconst 3, 1) := by decide +kernel
theorem dPl_accept_9 : decode cPl_accept 9 = .ok (.putfield 119, 3) := by decide +kernel
theorem dPl_accept_12 : decode cPl_accept 12 = .ok (.iconst 0, 1) := by decide +kernel
theorem dPl_accept_13 : decode cPl_accept 13 = .ok (.istore_n 2, 1) := by decide +kernel
theorem dPl_accept_14 : decode cPl_accept 14 = .ok (.iload_n 2, 1) := by decide +kernel
theorem dPl_accept_15 : decode cPl_accept 15 = .ok (.iconst 2, 1) := by decide +kernel
theorem dPl_accept_16 : decode cPl_accept 16 = .ok (.if_icmp .ge 20, 3) := by decide +kernel
theorem dPl_accept_19 : decode cPl_accept 19 = .ok (.aload_n 0, 1) := by decide +kernel
theorem dPl_accept_20 : decode cPl_accept 20 = .ok (.getfield 20, 3) := by decide +kernel
theorem dPl_accept_23 : decode cPl_accept 23 = .ok (.iload_n 2, 1) := by decide +kernel
theorem dPl_accept_24 : decode cPl_accept 24 = .ok (.aaload, 1) := by decide +kernel
theorem dPl_accept_25 : decode cPl_accept 25 = .ok (.aload_n 1, 1) := by decide +kernel
theorem dPl_accept_26 : decode cPl_accept 26 = .ok (.invokevirtual 168, 3) := by decide +kernel
theorem dPl_accept_29 : decode cPl_accept 29 = .ok (.pop, 1) := by decide +kernel
theorem dPl_accept_30 : decode cPl_accept 30 = .ok (.iinc 2 1, 3) := by decide +kernel
theorem dPl_accept_33 : decode cPl_accept 33 = .ok (.goto (-19), 3) := by decide +kernel
theorem dPl_accept_36 : decode cPl_accept 36 = .ok (.goto 17, 3) := by decide +kernel
theorem dPl_accept_39 : decode cPl_accept 39 = .ok (.aload_n 0, 1) := by decide +kernel
theorem dPl_accept_40 : decode cPl_accept 40 = .ok (.aload_n 1, 1) := by decide +kernel
theorem dPl_accept_41 : decode cPl_accept 41 = .ok (.invokevirtual 172, 3) := by decide +kernel
theorem dPl_accept_44 : decode cPl_accept 44 = .ok (.ifCond .ne 9, 3) := by decide +kernel
theorem dPl_accept_47 : decode cPl_accept 47 = .ok (.aload_n 1, 1) := by decide +kernel
theorem dPl_accept_48 : decode cPl_accept 48 = .ok (.bipush 10, 2) := by decide +kernel
theorem dPl_accept_50 : decode cPl_accept 50 = .ok (.invokevirtual 173, 3) := by decide +kernel
theorem dPl_accept_53 : decode cPl_accept 53 = .ok (.return_, 1) := by decide +kernel
theorem dPl_request_0 : decode cPl_request 0 = .ok (.iload_n 1, 1) := by decide +kernel
theorem dPl_request_1 : decode cPl_request 1 = .ok (.sipush 247, 3) := by decide +kernel
theorem dPl_request_4 : decode cPl_request 4 = .ok (.invokestatic 51, 3) := by decide +kernel
theorem dPl_request_7 : decode cPl_request 7 = .ok (.ifCond .eq 14, 3) := by decide +kernel
theorem dPl_request_10 : decode cPl_request 10 = .ok (.iload_n 2, 1) := by decide +kernel
theorem dPl_request_11 : decode cPl_request 11 = .ok (.iconst 1, 1) := by decide +kernel
theorem dPl_request_12 : decode cPl_request 12 = .ok (.if_icmp .lt 9, 3) := by decide +kernel
theorem dPl_request_15 : decode cPl_request 15 = .ok (.iload_n 2, 1) := by decide +kernel
theorem dPl_request_16 : decode cPl_request 16 = .ok (.bipush 127, 2) := by decide +kernel
theorem dPl_request_18 : decode cPl_request 18 = .ok (.if_icmp .le 5, 3) := by decide +kernel
theorem dPl_request_21 : decode cPl_request 21 = .ok (.iconst (-1), 1) := by decide +kernel
theorem dPl_request_22 : decode cPl_request 22 = .ok (.ireturn, 1) := by decide +kernel
theorem dPl_request_23 : decode cPl_request 23 = .ok (.iload_n 3, 1) := by decide +kernel
theorem dPl_request_24 : decode cPl_request 24 = .ok (.ldc 74, 2) := by decide +kernel
theorem dPl_request_26 : decode cPl_request 26 = .ok (.invokestatic 51, 3) := by decide +kernel
theorem dPl_request_29 : decode cPl_request 29 = .ok (.ifCond .eq 22, 3) := by decide +kernel
theorem dPl_request_32 : decode cPl_request 32 = .ok (.iload 4, 2) := by decide +kernel
theorem dPl_request_34 : decode cPl_request 34 = .ok (.bipush 16, 2) := by decide +kernel
theorem dPl_request_36 : decode cPl_request 36 = .ok (.invokestatic 51, 3) := by decide +kernel
theorem dPl_request_39 : decode cPl_request 39 = .ok (.ifCond .eq 12, 3) := by decide +kernel
theorem dPl_request_42 : decode cPl_request 42 = .ok (.aload_n 0, 1) := by decide +kernel
theorem dPl_request_43 : decode cPl_request 43 = .ok (.getfield 88, 3) := by decide +kernel
theorem dPl_request_46 : decode cPl_request 46 = .ok (.bipush 64, 2) := by decide +kernel
theorem dPl_request_48 : decode cPl_request 48 = .ok (.if_icmp .lt 5, 3) := by decide +kernel
theorem dPl_request_51 : decode cPl_request 51 = .ok (.iconst (-1), 1) := by decide +kernel
theorem dPl_request_52 : decode cPl_request 52 = .ok (.ireturn, 1) := by decide +kernel
theorem dPl_request_53 : decode cPl_request 53 = .ok (.aload_n 0, 1) := by decide +kernel
theorem dPl_request_54 : decode cPl_request 54 = .ok (.getfield 88, 3) := by decide +kernel
theorem dPl_request_57 : decode cPl_request 57 = .ok (.istore 7, 2) := by decide +kernel
theorem dPl_request_59 : decode cPl_request 59 = .ok (.new 25, 3) := by decide +kernel
theorem dPl_request_62 : decode cPl_request 62 = .ok (.dup, 1) := by decide +kernel
theorem dPl_request_63 : decode cPl_request 63 = .ok (.iload 7, 2) := by decide +kernel
theorem dPl_request_65 : decode cPl_request 65 = .ok (.iload_n 1, 1) := by decide +kernel
theorem dPl_request_66 : decode cPl_request 66 = .ok (.iload_n 2, 1) := by decide +kernel
theorem dPl_request_67 : decode cPl_request 67 = .ok (.iload_n 3, 1) := by decide +kernel
theorem dPl_request_68 : decode cPl_request 68 = .ok (.iload 4, 2) := by decide +kernel
theorem dPl_request_70 : decode cPl_request 70 = .ok (.lload 5, 2) := by decide +kernel
theorem dPl_request_72 : decode cPl_request 72 = .ok (.invokespecial 91, 3) := by decide +kernel
theorem dPl_request_75 : decode cPl_request 75 = .ok (.astore 8, 2) := by decide +kernel
theorem dPl_request_77 : decode cPl_request 77 = .ok (.aload_n 0, 1) := by decide +kernel
theorem dPl_request_78 : decode cPl_request 78 = .ok (.getfield 27, 3) := by decide +kernel
theorem dPl_request_81 : decode cPl_request 81 = .ok (.iload 7, 2) := by decide +kernel
theorem dPl_request_83 : decode cPl_request 83 = .ok (.aload 8, 2) := by decide +kernel
theorem dPl_request_85 : decode cPl_request 85 = .ok (.aastore, 1) := by decide +kernel
theorem dPl_request_86 : decode cPl_request 86 = .ok (.aload_n 0, 1) := by decide +kernel
theorem dPl_request_87 : decode cPl_request 87 = .ok (.dup, 1) := by decide +kernel
theorem dPl_request_88 : decode cPl_request 88 = .ok (.getfield 88, 3) := by decide +kernel
theorem dPl_request_91 : decode cPl_request 91 = .ok (.iconst 1, 1) := by decide +kernel
theorem dPl_request_92 : decode cPl_request 92 = .ok (.iadd, 1) := by decide +kernel
theorem dPl_request_93 : decode cPl_request 93 = .ok (.putfield 88, 3) := by decide +kernel
theorem dPl_request_96 : decode cPl_request 96 = .ok (.aload_n 0, 1) := by decide +kernel
theorem dPl_request_97 : decode cPl_request 97 = .ok (.aload 8, 2) := by decide +kernel
theorem dPl_request_99 : decode cPl_request 99 = .ok (.invokevirtual 94, 3) := by decide +kernel
theorem dPl_request_102 : decode cPl_request 102 = .ok (.iload 7, 2) := by decide +kernel
theorem dPl_request_104 : decode cPl_request 104 = .ok (.ireturn, 1) := by decide +kernel
theorem dPl_fault_0 : decode cPl_fault 0 = .ok (.iload_n 1, 1) := by decide +kernel
theorem dPl_fault_1 : decode cPl_fault 1 = .ok (.invokestatic 48, 3) := by decide +kernel
theorem dPl_fault_4 : decode cPl_fault 4 = .ok (.ifCond .eq 13, 3) := by decide +kernel
theorem dPl_fault_7 : decode cPl_fault 7 = .ok (.iload_n 3, 1) := by decide +kernel
theorem dPl_fault_8 : decode cPl_fault 8 = .ok (.sipush 400, 3) := by decide +kernel
theorem dPl_fault_11 : decode cPl_fault 11 = .ok (.invokestatic 51, 3) := by decide +kernel
theorem dPl_fault_14 : decode cPl_fault 14 = .ok (.ifCond .ne 5, 3) := by decide +kernel
theorem dPl_fault_17 : decode cPl_fault 17 = .ok (.iconst 0, 1) := by decide +kernel
theorem dPl_fault_18 : decode cPl_fault 18 = .ok (.ireturn, 1) := by decide +kernel
theorem dPl_fault_19 : decode cPl_fault 19 = .ok (.aload_n 0, 1) := by decide +kernel
theorem dPl_fault_20 : decode cPl_fault 20 = .ok (.getfield 20, 3) := by decide +kernel
theorem dPl_fault_23 : decode cPl_fault 23 = .ok (.iload_n 1, 1) := by decide +kernel
theorem dPl_fault_24 : decode cPl_fault 24 = .ok (.aaload, 1) := by decide +kernel
theorem dPl_fault_25 : decode cPl_fault 25 = .ok (.iload_n 2, 1) := by decide +kernel
theorem dPl_fault_26 : decode cPl_fault 26 = .ok (.invokevirtual 98, 3) := by decide +kernel
theorem dPl_fault_29 : decode cPl_fault 29 = .ok (.invokevirtual 102, 3) := by decide +kernel
theorem dPl_fault_32 : decode cPl_fault 32 = .ok (.ireturn, 1) := by decide +kernel
theorem dPl_isOnItsWay_0 : decode cPl_isOnItsWay 0 = .ok (.iconst 0, 1) := by decide +kernel
theorem dPl_isOnItsWay_1 : decode cPl_isOnItsWay 1 = .ok (.istore_n 2, 1) := by decide +kernel
theorem dPl_isOnItsWay_2 : decode cPl_isOnItsWay 2 = .ok (.iload_n 2, 1) := by decide +kernel
theorem dPl_isOnItsWay_3 : decode cPl_isOnItsWay 3 = .ok (.iconst 2, 1) := by decide +kernel
theorem dPl_isOnItsWay_4 : decode cPl_isOnItsWay 4 = .ok (.if_icmp .ge 24, 3) := by decide +kernel
theorem dPl_isOnItsWay_7 : decode cPl_isOnItsWay 7 = .ok (.aload_n 0, 1) := by decide +kernel
theorem dPl_isOnItsWay_8 : decode cPl_isOnItsWay 8 = .ok (.getfield 20, 3) := by decide +kernel
theorem dPl_isOnItsWay_11 : decode cPl_isOnItsWay 11 = .ok (.iload_n 2, 1) := by decide +kernel
theorem dPl_isOnItsWay_12 : decode cPl_isOnItsWay 12 = .ok (.aaload, 1) := by decide +kernel
theorem dPl_isOnItsWay_13 : decode cPl_isOnItsWay 13 = .ok (.aload_n 1, 1) := by decide +kernel
theorem dPl_isOnItsWay_14 : decode cPl_isOnItsWay 14 = .ok (.invokevirtual 182, 3) := by decide +kernel
theorem dPl_isOnItsWay_17 : decode cPl_isOnItsWay 17 = .ok (.ifCond .eq 5, 3) := by decide +kernel
theorem dPl_isOnItsWay_20 : decode cPl_isOnItsWay 20 = .ok (.iconst 1, 1) := by decide +kernel
theorem dPl_isOnItsWay_21 : decode cPl_isOnItsWay 21 = .ok (.ireturn, 1) := by decide +kernel
theorem dPl_isOnItsWay_22 : decode cPl_isOnItsWay 22 = .ok (.iinc 2 1, 3) := by decide +kernel
theorem dPl_isOnItsWay_25 : decode cPl_isOnItsWay 25 = .ok (.goto (-23), 3) := by decide +kernel
theorem dPl_isOnItsWay_28 : decode cPl_isOnItsWay 28 = .ok (.iconst 0, 1) := by decide +kernel
theorem dPl_isOnItsWay_29 : decode cPl_isOnItsWay 29 = .ok (.ireturn, 1) := by decide +kernel
theorem dPl_queuePolls_0 : decode cPl_queuePolls 0 = .ok (.iconst 0, 1) := by decide +kernel
theorem dPl_queuePolls_1 : decode cPl_queuePolls 1 = .ok (.istore_n 1, 1) := by decide +kernel
theorem dPl_queuePolls_2 : decode cPl_queuePolls 2 = .ok (.iload_n 1, 1) := by decide +kernel
theorem dPl_queuePolls_3 : decode cPl_queuePolls 3 = .ok (.aload_n 0, 1) := by decide +kernel
theorem dPl_queuePolls_4 : decode cPl_queuePolls 4 = .ok (.getfield 82, 3) := by decide +kernel
theorem dPl_queuePolls_7 : decode cPl_queuePolls 7 = .ok (.if_icmp .ge 34, 3) := by decide +kernel
theorem dPl_queuePolls_10 : decode cPl_queuePolls 10 = .ok (.aload_n 0, 1) := by decide +kernel
theorem dPl_queuePolls_11 : decode cPl_queuePolls 11 = .ok (.getfield 33, 3) := by decide +kernel
theorem dPl_queuePolls_14 : decode cPl_queuePolls 14 = .ok (.iload_n 1, 1) := by decide +kernel
theorem dPl_queuePolls_15 : decode cPl_queuePolls 15 = .ok (.aaload, 1) := by decide +kernel
theorem dPl_queuePolls_16 : decode cPl_queuePolls 16 = .ok (.astore_n 2, 1) := by decide +kernel
theorem dPl_queuePolls_17 : decode cPl_queuePolls 17 = .ok (.aload_n 2, 1) := by decide +kernel
theorem dPl_queuePolls_18 : decode cPl_queuePolls 18 = .ok (.ifnull 17, 3) := by decide +kernel
theorem dPl_queuePolls_21 : decode cPl_queuePolls 21 = .ok (.aload_n 0, 1) := by decide +kernel
theorem dPl_queuePolls_22 : decode cPl_queuePolls 22 = .ok (.aload_n 2, 1) := by decide +kernel
theorem dPl_queuePolls_23 : decode cPl_queuePolls 23 = .ok (.invokevirtual 179, 3) := by decide +kernel
theorem dPl_queuePolls_26 : decode cPl_queuePolls 26 = .ok (.ifCond .ne 9, 3) := by decide +kernel
theorem dPl_queuePolls_29 : decode cPl_queuePolls 29 = .ok (.aload_n 0, 1) := by decide +kernel
theorem dPl_queuePolls_30 : decode cPl_queuePolls 30 = .ok (.aload_n 2, 1) := by decide +kernel
theorem dPl_queuePolls_31 : decode cPl_queuePolls 31 = .ok (.invokevirtual 172, 3) := by decide +kernel
theorem dPl_queuePolls_34 : decode cPl_queuePolls 34 = .ok (.pop, 1) := by decide +kernel
theorem dPl_queuePolls_35 : decode cPl_queuePolls 35 = .ok (.iinc 1 1, 3) := by decide +kernel
theorem dPl_queuePolls_38 : decode cPl_queuePolls 38 = .ok (.goto (-36), 3) := by decide +kernel
theorem dPl_queuePolls_41 : decode cPl_queuePolls 41 = .ok (.return_, 1) := by decide +kernel
theorem dPl_takeAnswer_0 : decode cPl_takeAnswer 0 = .ok (.aload_n 1, 1) := by decide +kernel
theorem dPl_takeAnswer_1 : decode cPl_takeAnswer 1 = .ok (.getfield 135, 3) := by decide +kernel
theorem dPl_takeAnswer_4 : decode cPl_takeAnswer 4 = .ok (.astore_n 2, 1) := by decide +kernel
theorem dPl_takeAnswer_5 : decode cPl_takeAnswer 5 = .ok (.aload_n 2, 1) := by decide +kernel
theorem dPl_takeAnswer_6 : decode cPl_takeAnswer 6 = .ok (.ifnull 33, 3) := by decide +kernel
theorem dPl_takeAnswer_9 : decode cPl_takeAnswer 9 = .ok (.aload_n 1, 1) := by decide +kernel
theorem dPl_takeAnswer_10 : decode cPl_takeAnswer 10 = .ok (.getfield 203, 3) := by decide +kernel
theorem dPl_takeAnswer_13 : decode cPl_takeAnswer 13 = .ok (.aload_n 0, 1) := by decide +kernel
theorem dPl_takeAnswer_14 : decode cPl_takeAnswer 14 = .ok (.getfield 107, 3) := by decide +kernel
theorem dPl_takeAnswer_17 : decode cPl_takeAnswer 17 = .ok (.if_icmp .ne 22, 3) := by decide +kernel
theorem dPl_takeAnswer_20 : decode cPl_takeAnswer 20 = .ok (.aload_n 1, 1) := by decide +kernel
theorem dPl_takeAnswer_21 : decode cPl_takeAnswer 21 = .ok (.invokevirtual 206, 3) := by decide +kernel
theorem dPl_takeAnswer_24 : decode cPl_takeAnswer 24 = .ok (.aload_n 2, 1) := by decide +kernel
theorem dPl_takeAnswer_25 : decode cPl_takeAnswer 25 = .ok (.aload_n 1, 1) := by decide +kernel
theorem dPl_takeAnswer_26 : decode cPl_takeAnswer 26 = .ok (.getfield 209, 3) := by decide +kernel
theorem dPl_takeAnswer_29 : decode cPl_takeAnswer 29 = .ok (.getfield 144, 3) := by decide +kernel
theorem dPl_takeAnswer_32 : decode cPl_takeAnswer 32 = .ok (.aload_n 0, 1) := by decide +kernel
theorem dPl_takeAnswer_33 : decode cPl_takeAnswer 33 = .ok (.getfield 107, 3) := by decide +kernel
theorem dPl_takeAnswer_36 : decode cPl_takeAnswer 36 = .ok (.invokevirtual 213, 3) := by decide +kernel
theorem dPl_takeAnswer_39 : decode cPl_takeAnswer 39 = .ok (.return_, 1) := by decide +kernel
theorem dPl_deliver_0 : decode cPl_deliver 0 = .ok (.aconst_null, 1) := by decide +kernel
theorem dPl_deliver_1 : decode cPl_deliver 1 = .ok (.astore_n 3, 1) := by decide +kernel
theorem dPl_deliver_2 : decode cPl_deliver 2 = .ok (.iconst 0, 1) := by decide +kernel
theorem dPl_deliver_3 : decode cPl_deliver 3 = .ok (.istore 4, 2) := by decide +kernel
theorem dPl_deliver_5 : decode cPl_deliver 5 = .ok (.iload 4, 2) := by decide +kernel
theorem dPl_deliver_7 : decode cPl_deliver 7 = .ok (.bipush 6, 2) := by decide +kernel
theorem dPl_deliver_9 : decode cPl_deliver 9 = .ok (.if_icmp .ge 51, 3) := by decide +kernel
theorem dPl_deliver_12 : decode cPl_deliver 12 = .ok (.aload_n 0, 1) := by decide +kernel
theorem dPl_deliver_13 : decode cPl_deliver 13 = .ok (.getfield 11, 3) := by decide +kernel
theorem dPl_deliver_16 : decode cPl_deliver 16 = .ok (.iload 4, 2) := by decide +kernel
theorem dPl_deliver_18 : decode cPl_deliver 18 = .ok (.aaload, 1) := by decide +kernel
theorem dPl_deliver_19 : decode cPl_deliver 19 = .ok (.astore 5, 2) := by decide +kernel
theorem dPl_deliver_21 : decode cPl_deliver 21 = .ok (.aload 5, 2) := by decide +kernel
theorem dPl_deliver_23 : decode cPl_deliver 23 = .ok (.getfield 59, 3) := by decide +kernel
theorem dPl_deliver_26 : decode cPl_deliver 26 = .ok (.aload_n 1, 1) := by decide +kernel
theorem dPl_deliver_27 : decode cPl_deliver 27 = .ok (.getfield 237, 3) := by decide +kernel
theorem dPl_deliver_30 : decode cPl_deliver 30 = .ok (.if_icmp .ne 24, 3) := by decide +kernel
theorem dPl_deliver_33 : decode cPl_deliver 33 = .ok (.aload 5, 2) := by decide +kernel
theorem dPl_deliver_35 : decode cPl_deliver 35 = .ok (.aload_n 2, 1) := by decide +kernel
theorem dPl_deliver_36 : decode cPl_deliver 36 = .ok (.invokevirtual 238, 3) := by decide +kernel
theorem dPl_deliver_39 : decode cPl_deliver 39 = .ok (.ifCond .eq 15, 3) := by decide +kernel
theorem dPl_deliver_42 : decode cPl_deliver 42 = .ok (.aload 5, 2) := by decide +kernel
theorem dPl_deliver_44 : decode cPl_deliver 44 = .ok (.aload_n 2, 1) := by decide +kernel
theorem dPl_deliver_45 : decode cPl_deliver 45 = .ok (.invokevirtual 241, 3) := by decide +kernel
theorem dPl_deliver_48 : decode cPl_deliver 48 = .ok (.ifCond .eq 6, 3) := by decide +kernel
theorem dPl_deliver_51 : decode cPl_deliver 51 = .ok (.aload 5, 2) := by decide +kernel
theorem dPl_deliver_53 : decode cPl_deliver 53 = .ok (.astore_n 3, 1) := by decide +kernel
theorem dPl_deliver_54 : decode cPl_deliver 54 = .ok (.iinc 4 1, 3) := by decide +kernel
theorem dPl_deliver_57 : decode cPl_deliver 57 = .ok (.goto (-52), 3) := by decide +kernel
theorem dPl_deliver_60 : decode cPl_deliver 60 = .ok (.aload_n 3, 1) := by decide +kernel
theorem dPl_deliver_61 : decode cPl_deliver 61 = .ok (.areturn, 1) := by decide +kernel
theorem dPl_send_0 : decode cPl_send 0 = .ok (.aload_n 1, 1) := by decide +kernel
theorem dPl_send_1 : decode cPl_send 1 = .ok (.getfield 135, 3) := by decide +kernel
theorem dPl_send_4 : decode cPl_send 4 = .ok (.astore_n 2, 1) := by decide +kernel
theorem dPl_send_5 : decode cPl_send 5 = .ok (.aload_n 2, 1) := by decide +kernel
theorem dPl_send_6 : decode cPl_send 6 = .ok (.ifnonnull 4, 3) := by decide +kernel
theorem dPl_send_9 : decode cPl_send 9 = .ok (.return_, 1) := by decide +kernel
theorem dPl_send_10 : decode cPl_send 10 = .ok (.aload_n 1, 1) := by decide +kernel
theorem dPl_send_11 : decode cPl_send 11 = .ok (.aload_n 0, 1) := by decide +kernel
theorem dPl_send_12 : decode cPl_send 12 = .ok (.getfield 107, 3) := by decide +kernel
theorem dPl_send_15 : decode cPl_send 15 = .ok (.invokevirtual 217, 3) := by decide +kernel
theorem dPl_send_18 : decode cPl_send 18 = .ok (.aload_n 2, 1) := by decide +kernel
theorem dPl_send_19 : decode cPl_send 19 = .ok (.aload_n 1, 1) := by decide +kernel
theorem dPl_send_20 : decode cPl_send 20 = .ok (.getfield 220, 3) := by decide +kernel
theorem dPl_send_23 : decode cPl_send 23 = .ok (.getfield 144, 3) := by decide +kernel
theorem dPl_send_26 : decode cPl_send 26 = .ok (.invokevirtual 222, 3) := by decide +kernel
theorem dPl_send_29 : decode cPl_send 29 = .ok (.aload_n 1, 1) := by decide +kernel
theorem dPl_send_30 : decode cPl_send 30 = .ok (.getfield 220, 3) := by decide +kernel
theorem dPl_send_33 : decode cPl_send 33 = .ok (.invokevirtual 226, 3) := by decide +kernel
theorem dPl_send_36 : decode cPl_send 36 = .ok (.ifCond .eq 4, 3) := by decide +kernel
theorem dPl_send_39 : decode cPl_send 39 = .ok (.return_, 1) := by decide +kernel
theorem dPl_send_40 : decode cPl_send 40 = .ok (.aload_n 0, 1) := by decide +kernel
theorem dPl_send_41 : decode cPl_send 41 = .ok (.aload_n 1, 1) := by decide +kernel
theorem dPl_send_42 : decode cPl_send 42 = .ok (.aload_n 2, 1) := by decide +kernel
theorem dPl_send_43 : decode cPl_send 43 = .ok (.invokevirtual 229, 3) := by decide +kernel
theorem dPl_send_46 : decode cPl_send 46 = .ok (.astore_n 3, 1) := by decide +kernel
theorem dPl_send_47 : decode cPl_send 47 = .ok (.aload_n 3, 1) := by decide +kernel
theorem dPl_send_48 : decode cPl_send 48 = .ok (.ifnonnull 4, 3) := by decide +kernel
theorem dPl_send_51 : decode cPl_send 51 = .ok (.return_, 1) := by decide +kernel
theorem dPl_send_52 : decode cPl_send 52 = .ok (.aload_n 3, 1) := by decide +kernel
theorem dPl_send_53 : decode cPl_send 53 = .ok (.aload_n 2, 1) := by decide +kernel
theorem dPl_send_54 : decode cPl_send 54 = .ok (.aload_n 1, 1) := by decide +kernel
theorem dPl_send_55 : decode cPl_send 55 = .ok (.getfield 220, 3) := by decide +kernel
theorem dPl_send_58 : decode cPl_send 58 = .ok (.getfield 144, 3) := by decide +kernel
theorem dPl_send_61 : decode cPl_send 61 = .ok (.aload_n 1, 1) := by decide +kernel
theorem dPl_send_62 : decode cPl_send 62 = .ok (.getfield 209, 3) := by decide +kernel
theorem dPl_send_65 : decode cPl_send 65 = .ok (.getfield 144, 3) := by decide +kernel
theorem dPl_send_68 : decode cPl_send 68 = .ok (.invokevirtual 233, 3) := by decide +kernel
theorem dPl_send_71 : decode cPl_send 71 = .ok (.aload_n 1, 1) := by decide +kernel
theorem dPl_send_72 : decode cPl_send 72 = .ok (.getfield 209, 3) := by decide +kernel
theorem dPl_send_75 : decode cPl_send 75 = .ok (.invokevirtual 226, 3) := by decide +kernel
theorem dPl_send_78 : decode cPl_send 78 = .ok (.istore 4, 2) := by decide +kernel
theorem dPl_send_80 : decode cPl_send 80 = .ok (.iload 4, 2) := by decide +kernel
theorem dPl_send_82 : decode cPl_send 82 = .ok (.ifCond .ne 24, 3) := by decide +kernel
theorem dPl_send_85 : decode cPl_send 85 = .ok (.aload_n 3, 1) := by decide +kernel
theorem dPl_send_86 : decode cPl_send 86 = .ok (.getfield 63, 3) := by decide +kernel
theorem dPl_send_89 : decode cPl_send 89 = .ok (.iconst 3, 1) := by decide +kernel
theorem dPl_send_90 : decode cPl_send 90 = .ok (.if_icmp .ge 16, 3) := by decide +kernel
theorem dPl_send_93 : decode cPl_send 93 = .ok (.aload_n 1, 1) := by decide +kernel
theorem dPl_send_94 : decode cPl_send 94 = .ok (.aload_n 0, 1) := by decide +kernel
theorem dPl_send_95 : decode cPl_send 95 = .ok (.getfield 107, 3) := by decide +kernel
theorem dPl_send_98 : decode cPl_send 98 = .ok (.aload_n 3, 1) := by decide +kernel
theorem dPl_send_99 : decode cPl_send 99 = .ok (.getfield 63, 3) := by decide +kernel
theorem dPl_send_102 : decode cPl_send 102 = .ok (.iadd, 1) := by decide +kernel
theorem dPl_send_103 : decode cPl_send 103 = .ok (.putfield 203, 3) := by decide +kernel
theorem dPl_send_106 : decode cPl_send 106 = .ok (.return_, 1) := by decide +kernel
theorem dPl_serve_0 : decode cPl_serve 0 = .ok (.aload_n 0, 1) := by decide +kernel
theorem dPl_serve_1 : decode cPl_serve 1 = .ok (.aload_n 1, 1) := by decide +kernel
theorem dPl_serve_2 : decode cPl_serve 2 = .ok (.invokevirtual 185, 3) := by decide +kernel
theorem dPl_serve_5 : decode cPl_serve 5 = .ok (.aload_n 1, 1) := by decide +kernel
theorem dPl_serve_6 : decode cPl_serve 6 = .ok (.aload_n 0, 1) := by decide +kernel
theorem dPl_serve_7 : decode cPl_serve 7 = .ok (.getfield 107, 3) := by decide +kernel
theorem dPl_serve_10 : decode cPl_serve 10 = .ok (.invokevirtual 188, 3) := by decide +kernel
theorem dPl_serve_13 : decode cPl_serve 13 = .ok (.ifCond .eq 27, 3) := by decide +kernel
theorem dPl_serve_16 : decode cPl_serve 16 = .ok (.aload_n 1, 1) := by decide +kernel
theorem dPl_serve_17 : decode cPl_serve 17 = .ok (.invokevirtual 191, 3) := by decide +kernel
theorem dPl_serve_20 : decode cPl_serve 20 = .ok (.ifCond .eq 16, 3) := by decide +kernel
theorem dPl_serve_23 : decode cPl_serve 23 = .ok (.aload_n 0, 1) := by decide +kernel
theorem dPl_serve_24 : decode cPl_serve 24 = .ok (.aload_n 1, 1) := by decide +kernel
theorem dPl_serve_25 : decode cPl_serve 25 = .ok (.invokevirtual 194, 3) := by decide +kernel
theorem dPl_serve_28 : decode cPl_serve 28 = .ok (.aload_n 0, 1) := by decide +kernel
theorem dPl_serve_29 : decode cPl_serve 29 = .ok (.aload_n 1, 1) := by decide +kernel
theorem dPl_serve_30 : decode cPl_serve 30 = .ok (.invokevirtual 185, 3) := by decide +kernel
theorem dPl_serve_33 : decode cPl_serve 33 = .ok (.goto 7, 3) := by decide +kernel
theorem dPl_serve_36 : decode cPl_serve 36 = .ok (.aload_n 1, 1) := by decide +kernel
theorem dPl_serve_37 : decode cPl_serve 37 = .ok (.invokevirtual 197, 3) := by decide +kernel
theorem dPl_serve_40 : decode cPl_serve 40 = .ok (.aload_n 1, 1) := by decide +kernel
theorem dPl_serve_41 : decode cPl_serve 41 = .ok (.invokevirtual 200, 3) := by decide +kernel
theorem dPl_serve_44 : decode cPl_serve 44 = .ok (.ifCond .eq 13, 3) := by decide +kernel
theorem dPl_serve_47 : decode cPl_serve 47 = .ok (.aload_n 0, 1) := by decide +kernel
theorem dPl_serve_48 : decode cPl_serve 48 = .ok (.aload_n 1, 1) := by decide +kernel
theorem dPl_serve_49 : decode cPl_serve 49 = .ok (.invokevirtual 194, 3) := by decide +kernel
theorem dPl_serve_52 : decode cPl_serve 52 = .ok (.aload_n 0, 1) := by decide +kernel
theorem dPl_serve_53 : decode cPl_serve 53 = .ok (.aload_n 1, 1) := by decide +kernel
theorem dPl_serve_54 : decode cPl_serve 54 = .ok (.invokevirtual 185, 3) := by decide +kernel
theorem dPl_serve_57 : decode cPl_serve 57 = .ok (.return_, 1) := by decide +kernel
theorem dPl_tick_0 : decode cPl_tick 0 = .ok (.aload_n 0, 1) := by decide +kernel
theorem dPl_tick_1 : decode cPl_tick 1 = .ok (.dup, 1) := by decide +kernel
theorem dPl_tick_2 : decode cPl_tick 2 = .ok (.getfield 107, 3) := by decide +kernel
theorem dPl_tick_5 : decode cPl_tick 5 = .ok (.iconst 1, 1) := by decide +kernel
theorem dPl_tick_6 : decode cPl_tick 6 = .ok (.iadd, 1) := by decide +kernel
theorem dPl_tick_7 : decode cPl_tick 7 = .ok (.putfield 107, 3) := by decide +kernel
theorem dPl_tick_10 : decode cPl_tick 10 = .ok (.aload_n 0, 1) := by decide +kernel
theorem dPl_tick_11 : decode cPl_tick 11 = .ok (.getfield 107, 3) := by decide +kernel
theorem dPl_tick_14 : decode cPl_tick 14 = .ok (.bipush 8, 2) := by decide +kernel
theorem dPl_tick_16 : decode cPl_tick 16 = .ok (.irem, 1) := by decide +kernel
theorem dPl_tick_17 : decode cPl_tick 17 = .ok (.ifCond .ne 7, 3) := by decide +kernel
theorem dPl_tick_20 : decode cPl_tick 20 = .ok (.aload_n 0, 1) := by decide +kernel
theorem dPl_tick_21 : decode cPl_tick 21 = .ok (.invokevirtual 110, 3) := by decide +kernel
theorem dPl_tick_24 : decode cPl_tick 24 = .ok (.iconst 0, 1) := by decide +kernel
theorem dPl_tick_25 : decode cPl_tick 25 = .ok (.istore_n 1, 1) := by decide +kernel
theorem dPl_tick_26 : decode cPl_tick 26 = .ok (.iload_n 1, 1) := by decide +kernel
theorem dPl_tick_27 : decode cPl_tick 27 = .ok (.iconst 2, 1) := by decide +kernel
theorem dPl_tick_28 : decode cPl_tick 28 = .ok (.if_icmp .ge 19, 3) := by decide +kernel
theorem dPl_tick_31 : decode cPl_tick 31 = .ok (.aload_n 0, 1) := by decide +kernel
theorem dPl_tick_32 : decode cPl_tick 32 = .ok (.aload_n 0, 1) := by decide +kernel
theorem dPl_tick_33 : decode cPl_tick 33 = .ok (.getfield 20, 3) := by decide +kernel
theorem dPl_tick_36 : decode cPl_tick 36 = .ok (.iload_n 1, 1) := by decide +kernel
theorem dPl_tick_37 : decode cPl_tick 37 = .ok (.aaload, 1) := by decide +kernel
theorem dPl_tick_38 : decode cPl_tick 38 = .ok (.invokevirtual 113, 3) := by decide +kernel
theorem dPl_tick_41 : decode cPl_tick 41 = .ok (.iinc 1 1, 3) := by decide +kernel
theorem dPl_tick_44 : decode cPl_tick 44 = .ok (.goto (-18), 3) := by decide +kernel
theorem dPl_tick_47 : decode cPl_tick 47 = .ok (.aload_n 0, 1) := by decide +kernel
theorem dPl_tick_48 : decode cPl_tick 48 = .ok (.getfield 107, 3) := by decide +kernel
theorem dPl_tick_51 : decode cPl_tick 51 = .ok (.ireturn, 1) := by decide +kernel
theorem dPl_reply_0 : decode cPl_reply 0 = .ok (.iload_n 1, 1) := by decide +kernel
theorem dPl_reply_1 : decode cPl_reply 1 = .ok (.ifCond .lt 20, 3) := by decide +kernel
theorem dPl_reply_4 : decode cPl_reply 4 = .ok (.iload_n 1, 1) := by decide +kernel
theorem dPl_reply_5 : decode cPl_reply 5 = .ok (.aload_n 0, 1) := by decide +kernel
theorem dPl_reply_6 : decode cPl_reply 6 = .ok (.getfield 88, 3) := by decide +kernel
theorem dPl_reply_9 : decode cPl_reply 9 = .ok (.if_icmp .ge 12, 3) := by decide +kernel
theorem dPl_reply_12 : decode cPl_reply 12 = .ok (.aload_n 0, 1) := by decide +kernel
theorem dPl_reply_13 : decode cPl_reply 13 = .ok (.getfield 27, 3) := by decide +kernel
theorem dPl_reply_16 : decode cPl_reply 16 = .ok (.iload_n 1, 1) := by decide +kernel
theorem dPl_reply_17 : decode cPl_reply 17 = .ok (.aaload, 1) := by decide +kernel
theorem dPl_reply_18 : decode cPl_reply 18 = .ok (.goto 4, 3) := by decide +kernel
theorem dPl_reply_21 : decode cPl_reply 21 = .ok (.aconst_null, 1) := by decide +kernel
theorem dPl_reply_22 : decode cPl_reply 22 = .ok (.astore_n 3, 1) := by decide +kernel
theorem dPl_reply_23 : decode cPl_reply 23 = .ok (.aload_n 3, 1) := by decide +kernel
theorem dPl_reply_24 : decode cPl_reply 24 = .ok (.ifnonnull 7, 3) := by decide +kernel
theorem dPl_reply_27 : decode cPl_reply 27 = .ok (.ldc2_w 117, 3) := by decide +kernel
theorem dPl_reply_30 : decode cPl_reply 30 = .ok (.lreturn, 1) := by decide +kernel
theorem dPl_reply_31 : decode cPl_reply 31 = .ok (.iload_n 2, 1) := by decide +kernel
theorem dPl_reply_32 : decode cPl_reply 32 = .ok (.tableswitch 45 0 2 #[28, 34, 40], 28) := by decide +kernel
theorem dPl_reply_60 : decode cPl_reply 60 = .ok (.aload_n 3, 1) := by decide +kernel
theorem dPl_reply_61 : decode cPl_reply 61 = .ok (.getfield 119, 3) := by decide +kernel
theorem dPl_reply_64 : decode cPl_reply 64 = .ok (.i2l, 1) := by decide +kernel
theorem dPl_reply_65 : decode cPl_reply 65 = .ok (.lreturn, 1) := by decide +kernel
theorem dPl_reply_66 : decode cPl_reply 66 = .ok (.aload_n 3, 1) := by decide +kernel
theorem dPl_reply_67 : decode cPl_reply 67 = .ok (.getfield 122, 3) := by decide +kernel
theorem dPl_reply_70 : decode cPl_reply 70 = .ok (.i2l, 1) := by decide +kernel
theorem dPl_reply_71 : decode cPl_reply 71 = .ok (.lreturn, 1) := by decide +kernel
theorem dPl_reply_72 : decode cPl_reply 72 = .ok (.aload_n 3, 1) := by decide +kernel
theorem dPl_reply_73 : decode cPl_reply 73 = .ok (.getfield 125, 3) := by decide +kernel
theorem dPl_reply_76 : decode cPl_reply 76 = .ok (.lreturn, 1) := by decide +kernel
theorem dPl_reply_77 : decode cPl_reply 77 = .ok (.ldc2_w 117, 3) := by decide +kernel
theorem dPl_reply_80 : decode cPl_reply 80 = .ok (.lreturn, 1) := by decide +kernel
theorem dPl_line_0 : decode cPl_line 0 = .ok (.iload_n 1, 1) := by decide +kernel
theorem dPl_line_1 : decode cPl_line 1 = .ok (.invokestatic 48, 3) := by decide +kernel
theorem dPl_line_4 : decode cPl_line 4 = .ok (.ifCond .ne 5, 3) := by decide +kernel
theorem dPl_line_7 : decode cPl_line 7 = .ok (.iconst (-1), 1) := by decide +kernel
theorem dPl_line_8 : decode cPl_line 8 = .ok (.ireturn, 1) := by decide +kernel
theorem dPl_line_9 : decode cPl_line 9 = .ok (.aload_n 0, 1) := by decide +kernel
theorem dPl_line_10 : decode cPl_line 10 = .ok (.getfield 20, 3) := by decide +kernel
theorem dPl_line_13 : decode cPl_line 13 = .ok (.iload_n 1, 1) := by decide +kernel
theorem dPl_line_14 : decode cPl_line 14 = .ok (.aaload, 1) := by decide +kernel
theorem dPl_line_15 : decode cPl_line 15 = .ok (.astore_n 3, 1) := by decide +kernel
theorem dPl_line_16 : decode cPl_line 16 = .ok (.iload_n 2, 1) := by decide +kernel
theorem dPl_line_17 : decode cPl_line 17 = .ok (.tableswitch 56 0 2 #[27, 32, 37], 27) := by decide +kernel
theorem dPl_line_44 : decode cPl_line 44 = .ok (.aload_n 3, 1) := by decide +kernel
theorem dPl_line_45 : decode cPl_line 45 = .ok (.getfield 129, 3) := by decide +kernel
theorem dPl_line_48 : decode cPl_line 48 = .ok (.ireturn, 1) := by decide +kernel
theorem dPl_line_49 : decode cPl_line 49 = .ok (.aload_n 3, 1) := by decide +kernel
theorem dPl_line_50 : decode cPl_line 50 = .ok (.getfield 132, 3) := by decide +kernel
theorem dPl_line_53 : decode cPl_line 53 = .ok (.ireturn, 1) := by decide +kernel
theorem dPl_line_54 : decode cPl_line 54 = .ok (.aload_n 3, 1) := by decide +kernel
theorem dPl_line_55 : decode cPl_line 55 = .ok (.getfield 135, 3) := by decide +kernel
theorem dPl_line_58 : decode cPl_line 58 = .ok (.ifnonnull 7, 3) := by decide +kernel
theorem dPl_line_61 : decode cPl_line 61 = .ok (.iconst (-1), 1) := by decide +kernel
theorem dPl_line_62 : decode cPl_line 62 = .ok (.goto 10, 3) := by decide +kernel
theorem dPl_line_65 : decode cPl_line 65 = .ok (.aload_n 3, 1) := by decide +kernel
theorem dPl_line_66 : decode cPl_line 66 = .ok (.getfield 135, 3) := by decide +kernel
theorem dPl_line_69 : decode cPl_line 69 = .ok (.getfield 139, 3) := by decide +kernel
theorem dPl_line_72 : decode cPl_line 72 = .ok (.ireturn, 1) := by decide +kernel
theorem dPl_line_73 : decode cPl_line 73 = .ok (.iconst (-1), 1) := by decide +kernel
theorem dPl_line_74 : decode cPl_line 74 = .ok (.ireturn, 1) := by decide +kernel
theorem dPl_wire_0 : decode cPl_wire 0 = .ok (.iload_n 1, 1) := by decide +kernel
theorem dPl_wire_1 : decode cPl_wire 1 = .ok (.invokestatic 48, 3) := by decide +kernel
theorem dPl_wire_4 : decode cPl_wire 4 = .ok (.ifCond .ne 5, 3) := by decide +kernel
theorem dPl_wire_7 : decode cPl_wire 7 = .ok (.iconst (-1), 1) := by decide +kernel
theorem dPl_wire_8 : decode cPl_wire 8 = .ok (.ireturn, 1) := by decide +kernel
theorem dPl_wire_9 : decode cPl_wire 9 = .ok (.aload_n 0, 1) := by decide +kernel
theorem dPl_wire_10 : decode cPl_wire 10 = .ok (.getfield 20, 3) := by decide +kernel
theorem dPl_wire_13 : decode cPl_wire 13 = .ok (.iload_n 1, 1) := by decide +kernel
theorem dPl_wire_14 : decode cPl_wire 14 = .ok (.aaload, 1) := by decide +kernel
theorem dPl_wire_15 : decode cPl_wire 15 = .ok (.iload_n 2, 1) := by decide +kernel
theorem dPl_wire_16 : decode cPl_wire 16 = .ok (.invokevirtual 98, 3) := by decide +kernel
theorem dPl_wire_19 : decode cPl_wire 19 = .ok (.getfield 144, 3) := by decide +kernel
theorem dPl_wire_22 : decode cPl_wire 22 = .ok (.astore 4, 2) := by decide +kernel
theorem dPl_wire_24 : decode cPl_wire 24 = .ok (.iload_n 3, 1) := by decide +kernel
theorem dPl_wire_25 : decode cPl_wire 25 = .ok (.iconst (-1), 1) := by decide +kernel
theorem dPl_wire_26 : decode cPl_wire 26 = .ok (.if_icmp .ne 11, 3) := by decide +kernel
theorem dPl_wire_29 : decode cPl_wire 29 = .ok (.aload 4, 2) := by decide +kernel
theorem dPl_wire_31 : decode cPl_wire 31 = .ok (.getfield 148, 3) := by decide +kernel
theorem dPl_wire_34 : decode cPl_wire 34 = .ok (.goto 9, 3) := by decide +kernel
theorem dPl_wire_37 : decode cPl_wire 37 = .ok (.aload 4, 2) := by decide +kernel
theorem dPl_wire_39 : decode cPl_wire 39 = .ok (.iload_n 3, 1) := by decide +kernel
theorem dPl_wire_40 : decode cPl_wire 40 = .ok (.invokevirtual 153, 3) := by decide +kernel
theorem dPl_wire_43 : decode cPl_wire 43 = .ok (.ireturn, 1) := by decide +kernel
theorem dPl_sample_0 : decode cPl_sample 0 = .ok (.aload_n 0, 1) := by decide +kernel
theorem dPl_sample_1 : decode cPl_sample 1 = .ok (.getfield 40, 3) := by decide +kernel
theorem dPl_sample_4 : decode cPl_sample 4 = .ok (.iload_n 1, 1) := by decide +kernel
theorem dPl_sample_5 : decode cPl_sample 5 = .ok (.iload_n 2, 1) := by decide +kernel
theorem dPl_sample_6 : decode cPl_sample 6 = .ok (.invokevirtual 157, 3) := by decide +kernel
theorem dPl_sample_9 : decode cPl_sample 9 = .ok (.ireturn, 1) := by decide +kernel
theorem dPl_samples_0 : decode cPl_samples 0 = .ok (.aload_n 0, 1) := by decide +kernel
theorem dPl_samples_1 : decode cPl_samples 1 = .ok (.getfield 40, 3) := by decide +kernel
theorem dPl_samples_4 : decode cPl_samples 4 = .ok (.iload_n 1, 1) := by decide +kernel
theorem dPl_samples_5 : decode cPl_samples 5 = .ok (.iload_n 2, 1) := by decide +kernel
theorem dPl_samples_6 : decode cPl_samples 6 = .ok (.iload_n 3, 1) := by decide +kernel
theorem dPl_samples_7 : decode cPl_samples 7 = .ok (.invokevirtual 161, 3) := by decide +kernel
theorem dPl_samples_10 : decode cPl_samples 10 = .ok (.ireturn, 1) := by decide +kernel
def fPl_init (t0 : Nat) (S : Ws) : Option (Ws) :=
  (pV (S.add (.inl (3, 6, .inr (.inr (fun _ => none))))) t0 [7] 0 (.ref S.1)).bind fun S1 => (gR S1 t0 [7] 0).bind fun r2 => (fSl_init S1.1 ((0 : Int32) + (1 : Int32)) (S1.add (.inr (5, [.int 0, .null, .null, .null, .null, .int 0, .int 0, .int 0, .int 0])))).bind fun S3 => (r2).bind fun a4 => (ck S3 (some S1.1) [5]).bind fun z6 => (sR S3 a4 3 (0 : Int32) (some S1.1)).bind fun S5 => (gR S5 t0 [7] 0).bind fun r7 => (fSl_init S5.1 ((1 : Int32) + (1 : Int32)) (S5.add (.inr (5, [.int 0, .null, .null, .null, .null, .int 0, .int 0, .int 0, .int 0])))).bind fun S8 => (r7).bind fun a9 => (ck S8 (some S5.1) [5]).bind fun z11 => (sR S8 a9 3 (1 : Int32) (some S5.1)).bind fun S10 => (gR S10 t0 [7] 0).bind fun r12 => (fSl_init S10.1 ((2 : Int32) + (1 : Int32)) (S10.add (.inr (5, [.int 0, .null, .null, .null, .null, .int 0, .int 0, .int 0, .int 0])))).bind fun S13 => (r12).bind fun a14 => (ck S13 (some S10.1) [5]).bind fun z16 => (sR S13 a14 3 (2 : Int32) (some S10.1)).bind fun S15 => (gR S15 t0 [7] 0).bind fun r17 => (fSl_init S15.1 ((3 : Int32) + (1 : Int32)) (S15.add (.inr (5, [.int 0, .null, .null, .null, .null, .int 0, .int 0, .int 0, .int 0])))).bind fun S18 => (r17).bind fun a19 => (ck S18 (some S15.1) [5]).bind fun z21 => (sR S18 a19 3 (3 : Int32) (some S15.1)).bind fun S20 => (gR S20 t0 [7] 0).bind fun r22 => (fSl_init S20.1 ((4 : Int32) + (1 : Int32)) (S20.add (.inr (5, [.int 0, .null, .null, .null, .null, .int 0, .int 0, .int 0, .int 0])))).bind fun S23 => (r22).bind fun a24 => (ck S23 (some S20.1) [5]).bind fun z26 => (sR S23 a24 3 (4 : Int32) (some S20.1)).bind fun S25 => (gR S25 t0 [7] 0).bind fun r27 => (fSl_init S25.1 ((5 : Int32) + (1 : Int32)) (S25.add (.inr (5, [.int 0, .null, .null, .null, .null, .int 0, .int 0, .int 0, .int 0])))).bind fun S28 => (r27).bind fun a29 => (ck S28 (some S25.1) [5]).bind fun z31 => (sR S28 a29 3 (5 : Int32) (some S25.1)).bind fun S30 => (pV (S30.add (.inl (4, 2, .inr (.inr (fun _ => none))))) t0 [7] 1 (.ref S30.1)).bind fun S32 => (gR S32 t0 [7] 1).bind fun r33 => (fLi_init S32.1 (0 : Int32) (S32.add (.inr (2, [.int 0, .null, .null, .null, .int 0, .null, .int 0, .int 0, .int 0])))).bind fun S34 => (r33).bind fun a35 => (ck S34 (some S32.1) [2]).bind fun z37 => (sR S34 a35 4 (0 : Int32) (some S32.1)).bind fun S36 => (gR S36 t0 [7] 1).bind fun r38 => (fLi_init S36.1 (1 : Int32) (S36.add (.inr (2, [.int 0, .null, .null, .null, .int 0, .null, .int 0, .int 0, .int 0])))).bind fun S39 => (r38).bind fun a40 => (ck S39 (some S36.1) [2]).bind fun z42 => (sR S39 a40 4 (1 : Int32) (some S36.1)).bind fun S41 => (pV (S41.add (.inl (5, 64, .inr (.inr (fun _ => none))))) t0 [7] 2 (.ref S41.1)).bind fun S43 => (pV (S43.add (.inl (6, 4, .inr (.inr (fun _ => none))))) t0 [7] 3 (.ref S43.1)).bind fun S44 => (fHi_init S44.1 (S44.add (.inr (1, [.null, .null, .null, .null, .int 0, .int 0])))).bind fun S45 => (pV S45 t0 [7] 4 (.ref S44.1)).bind fun S46 => some S46
set_option maxRecDepth 100000 in
set_option maxHeartbeats 4000000 in
theorem kPl_init (l : Launch) (D : va_G) (tc : Nat → ClassId) (b : Nat) (t0 : Nat) (S Sz : Ws) (h : fPl_init t0 S = some Sz) : Met l yPl_init wsPl_init { frames := 4, cells := 55, slots := 670, locals := 160 } (va_Pc [.ref t0] (Wp D vwCl (hTy tc) b S)) (va_Qv (fun _ : Unit => True) (fun _ => Wp D vwCl (hTy tc) b Sz) (fun q => b ≤ q)) 55 670 (fun q => b ≤ q) := by
  refine hq_ofW (cc := cPl_init) (maxL := 2) (ret := none) (by decide) rfl (Nat.le_of_ble_eq_true rfl) fun p e s m args below meth c hx hb hr hts hown hlocks hnm hml H locs ls hl hW => ?_
  have hts : ∀ w ∈ lwG, w.before args s = true := fun w h => hts w (List.mem_cons_of_mem _ h)
  have hown : s.vm.findClass "SerialPlant" = some m.cls := hown
  have hl : lv_has ls 2 [(0, .ref t0)] := hl
  unfold fPl_init at h
  refine lv_aload_n hx hb dPl_init_0 rfl (lv_at hl 0 rfl) ?_
  refine W.objInit hx hb hown (hts _ w_16) (hts _ w_17) (hts _ w_oi) rfl (by rw [hml]; exact hl.1) rfl dPl_init_1 (Nat.le_of_ble_eq_true rfl) (Nat.le_of_ble_eq_true rfl) ?_
  refine W.eq (g2 := F0 m 4 ls []) rfl ?_
  refine lv_aload_n hx hb dPl_init_4 rfl (lv_at hl 0 rfl) ?_
  refine lv_bipush hx hb dPl_init_5 (v := (6 : Int32)) rfl ?_
  refine hq_newq (C := "SerialPlant$Slave") (N := 6) (ce := 1) (sl := 6) hx hb hown (hts _ w_19) hW.nw.2.2.2.1 hW 3 rfl (by decide) rfl (by decide) rfl rfl (Nat.le_of_ble_eq_true rfl) (Nat.le_of_ble_eq_true rfl) dPl_init_7 (fun H hW => ?_)
  replace h := ob h; obtain ⟨S1, eS1, h⟩ := h
  refine hq_put hx hb hts hown hW eS1 (F_Pl_11 hts) (P_Pl_Pl_0 hnm) rfl rfl dPl_init_10 (fun H locs hW => ?_)
  refine lv_iconst hx hb dPl_init_13 (v := (0 : Int32)) rfl ?_
  refine lv_istore_n (lv' := [(1, .int (0 : Int32)), (0, .ref t0)]) hx hb dPl_init_14 rfl hl (Nat.le_of_ble_eq_true rfl) (by first | rfl | (simp [List.filter, rf_cat] <;> rfl)) (fun ls hl => ?_)
  refine lv_iload_n hx hb dPl_init_15 rfl (lv_at hl 0 rfl) ?_
  refine lv_bipush hx hb dPl_init_16 (v := (6 : Int32)) rfl ?_
  refine lv_icmp_ge hx hb dPl_init_18 (tgt := 43) rfl (fun hc => absurd hc (by decide)) (fun _ => ?_)
  refine lv_aload_n hx hb dPl_init_21 rfl (lv_at hl 1 rfl) ?_
  replace h := ob h; obtain ⟨r2, er2, h⟩ := h
  refine hq_get hx hb hts hown hW (gR_V er2) (F_Pl_11 hts) dPl_init_22 ?_
  refine lv_iload_n hx hb dPl_init_25 rfl (lv_at hl 0 rfl) ?_
  refine hq_new (ci := 5) (fs := [.int 0, .null, .null, .null, .null, .int 0, .int 0, .int 0, .int 0]) (C := "SerialPlant$Slave") (T := TSl) (N := 9) (ce := 2) (sl := 15) hx hb hts inSl tySl tySl_ok hown (hts _ w_19) (hts _ w_21) (hts _ w_2) hW rfl dfSl rfl rfl (Nat.le_of_ble_eq_true rfl) (Nat.le_of_ble_eq_true rfl) dPl_init_26 (fun H hW => ?_)
  refine lv_dup hx hb dPl_init_29 rfl ?_
  refine lv_iload_n hx hb dPl_init_30 rfl (lv_at hl 0 rfl) ?_
  refine lv_iconst hx hb dPl_init_31 (v := (1 : Int32)) rfl ?_
  refine lv_iadd hx hb dPl_init_32 ?_
  replace h := ob h; obtain ⟨S3, eS3, h⟩ := h
  refine hq_callv (ce := 6) (sl := 63) (va_runI (As := [.int ((0 : Int32) + (1 : Int32))]) (rest := [.ref S1.1, .int (0 : Int32), va_rf r2]) ⟨hx, hb, hml, hown, hts⟩ (kSl_init l D tc b S1.1 ((0 : Int32) + (1 : Int32)) (S1.add (.inr (5, [.int 0, .null, .null, .null, .null, .int 0, .int 0, .int 0, .int 0]))) _ eS3) (cwI 1 hts G0_Sl_init rfl rfl rfl (hts _ w_2) (hts _ w_22) (hts _ w_23) rfl hd_Sl_init_I ⟨Nat.le_of_ble_eq_true rfl, Nat.le_of_ble_eq_true rfl⟩) (hq_preS hW) rfl rfl hl.1 rfl (lv_room (by first | exact Nat.le_of_ble_eq_true rfl | (simp only [List.map, rf_cat]; exact Nat.le_of_ble_eq_true rfl))) dPl_init_33 ⟨Nat.le_of_ble_eq_true rfl, Nat.le_of_ble_eq_true rfl⟩) hW rfl rfl (fun H locs hW => ?_)
  replace h := ob h; obtain ⟨a4, hra4, h⟩ := h
  subst hra4
  replace h := ob h; obtain ⟨z6, ez6, h⟩ := h
  replace h := ob h; obtain ⟨S5, eS5, h⟩ := h
  refine hq_aast (x := (some S1.1)) hx hb hW ez6 eS5 rfl (fk1 ⟨_, rfl, Or.inl rfl⟩) dPl_init_36 (fun H locs hW => ?_)
  refine lv_iinc (k := 0) (v := (1 : Int32)) (lv' := [(1, .int (1 : Int32)), (0, .ref t0)]) hx hb dPl_init_37 hl rfl rfl (Nat.le_of_ble_eq_true rfl) (by first | rfl | (simp [List.filter, rf_cat] <;> rfl)) (fun ls hl => ?_)
  refine lv_goto hx hb dPl_init_40 (tgt := 15) rfl ?_
  refine lv_iload_n hx hb dPl_init_15 rfl (lv_at hl 0 rfl) ?_
  refine lv_bipush hx hb dPl_init_16 (v := (6 : Int32)) rfl ?_
  refine lv_icmp_ge hx hb dPl_init_18 (tgt := 43) rfl (fun hc => absurd hc (by decide)) (fun _ => ?_)
  refine lv_aload_n hx hb dPl_init_21 rfl (lv_at hl 1 rfl) ?_
  replace h := ob h; obtain ⟨r7, er7, h⟩ := h
  refine hq_get hx hb hts hown hW (gR_V er7) (F_Pl_11 hts) dPl_init_22 ?_
  refine lv_iload_n hx hb dPl_init_25 rfl (lv_at hl 0 rfl) ?_
  refine hq_new (ci := 5) (fs := [.int 0, .null, .null, .null, .null, .int 0, .int 0, .int 0, .int 0]) (C := "SerialPlant$Slave") (T := TSl) (N := 9) (ce := 7) (sl := 72) hx hb hts inSl tySl tySl_ok hown (hts _ w_19) (hts _ w_21) (hts _ w_2) hW rfl dfSl rfl rfl (Nat.le_of_ble_eq_true rfl) (Nat.le_of_ble_eq_true rfl) dPl_init_26 (fun H hW => ?_)
  refine lv_dup hx hb dPl_init_29 rfl ?_
  refine lv_iload_n hx hb dPl_init_30 rfl (lv_at hl 0 rfl) ?_
  refine lv_iconst hx hb dPl_init_31 (v := (1 : Int32)) rfl ?_
  refine lv_iadd hx hb dPl_init_32 ?_
  replace h := ob h; obtain ⟨S8, eS8, h⟩ := h
  refine hq_callv (ce := 11) (sl := 120) (va_runI (As := [.int ((1 : Int32) + (1 : Int32))]) (rest := [.ref S5.1, .int (1 : Int32), va_rf r7]) ⟨hx, hb, hml, hown, hts⟩ (kSl_init l D tc b S5.1 ((1 : Int32) + (1 : Int32)) (S5.add (.inr (5, [.int 0, .null, .null, .null, .null, .int 0, .int 0, .int 0, .int 0]))) _ eS8) (cwI 1 hts G0_Sl_init rfl rfl rfl (hts _ w_2) (hts _ w_22) (hts _ w_23) rfl hd_Sl_init_I ⟨Nat.le_of_ble_eq_true rfl, Nat.le_of_ble_eq_true rfl⟩) (hq_preS hW) rfl rfl hl.1 rfl (lv_room (by first | exact Nat.le_of_ble_eq_true rfl | (simp only [List.map, rf_cat]; exact Nat.le_of_ble_eq_true rfl))) dPl_init_33 ⟨Nat.le_of_ble_eq_true rfl, Nat.le_of_ble_eq_true rfl⟩) hW rfl rfl (fun H locs hW => ?_)
  replace h := ob h; obtain ⟨a9, hra9, h⟩ := h
  subst hra9
  replace h := ob h; obtain ⟨z11, ez11, h⟩ := h
  replace h := ob h; obtain ⟨S10, eS10, h⟩ := h
  refine hq_aast (x := (some S5.1)) hx hb hW ez11 eS10 rfl (fk1 ⟨_, rfl, Or.inl rfl⟩) dPl_init_36 (fun H locs hW => ?_)
  refine lv_iinc (k := 0) (v := (2 : Int32)) (lv' := [(1, .int (2 : Int32)), (0, .ref t0)]) hx hb dPl_init_37 hl rfl rfl (Nat.le_of_ble_eq_true rfl) (by first | rfl | (simp [List.filter, rf_cat] <;> rfl)) (fun ls hl => ?_)
  refine lv_goto hx hb dPl_init_40 (tgt := 15) rfl ?_
  refine lv_iload_n hx hb dPl_init_15 rfl (lv_at hl 0 rfl) ?_
  refine lv_bipush hx hb dPl_init_16 (v := (6 : Int32)) rfl ?_
  refine lv_icmp_ge hx hb dPl_init_18 (tgt := 43) rfl (fun hc => absurd hc (by decide)) (fun _ => ?_)
  refine lv_aload_n hx hb dPl_init_21 rfl (lv_at hl 1 rfl) ?_
  replace h := ob h; obtain ⟨r12, er12, h⟩ := h
  refine hq_get hx hb hts hown hW (gR_V er12) (F_Pl_11 hts) dPl_init_22 ?_
  refine lv_iload_n hx hb dPl_init_25 rfl (lv_at hl 0 rfl) ?_
  refine hq_new (ci := 5) (fs := [.int 0, .null, .null, .null, .null, .int 0, .int 0, .int 0, .int 0]) (C := "SerialPlant$Slave") (T := TSl) (N := 9) (ce := 12) (sl := 129) hx hb hts inSl tySl tySl_ok hown (hts _ w_19) (hts _ w_21) (hts _ w_2) hW rfl dfSl rfl rfl (Nat.le_of_ble_eq_true rfl) (Nat.le_of_ble_eq_true rfl) dPl_init_26 (fun H hW => ?_)
  refine lv_dup hx hb dPl_init_29 rfl ?_
  refine lv_iload_n hx hb dPl_init_30 rfl (lv_at hl 0 rfl) ?_
  refine lv_iconst hx hb dPl_init_31 (v := (1 : Int32)) rfl ?_
  refine lv_iadd hx hb dPl_init_32 ?_
  replace h := ob h; obtain ⟨S13, eS13, h⟩ := h
  refine hq_callv (ce := 16) (sl := 177) (va_runI (As := [.int ((2 : Int32) + (1 : Int32))]) (rest := [.ref S10.1, .int (2 : Int32), va_rf r12]) ⟨hx, hb, hml, hown, hts⟩ (kSl_init l D tc b S10.1 ((2 : Int32) + (1 : Int32)) (S10.add (.inr (5, [.int 0, .null, .null, .null, .null, .int 0, .int 0, .int 0, .int 0]))) _ eS13) (cwI 1 hts G0_Sl_init rfl rfl rfl (hts _ w_2) (hts _ w_22) (hts _ w_23) rfl hd_Sl_init_I ⟨Nat.le_of_ble_eq_true rfl, Nat.le_of_ble_eq_true rfl⟩) (hq_preS hW) rfl rfl hl.1 rfl (lv_room (by first | exact Nat.le_of_ble_eq_true rfl | (simp only [List.map, rf_cat]; exact Nat.le_of_ble_eq_true rfl))) dPl_init_33 ⟨Nat.le_of_ble_eq_true rfl, Nat.le_of_ble_eq_true rfl⟩) hW rfl rfl (fun H locs hW => ?_)
  replace h := ob h; obtain ⟨a14, hra14, h⟩ := h
  subst hra14
  replace h := ob h; obtain ⟨z16, ez16, h⟩ := h
  replace h := ob h; obtain ⟨S15, eS15, h⟩ := h
  refine hq_aast (x := (some S10.1)) hx hb hW ez16 eS15 rfl (fk1 ⟨_, rfl, Or.inl rfl⟩) dPl_init_36 (fun H locs hW => ?_)
  refine lv_iinc (k := 0) (v := (3 : Int32)) (lv' := [(1, .int (3 : Int32)), (0, .ref t0)]) hx hb dPl_init_37 hl rfl rfl (Nat.le_of_ble_eq_true rfl) (by first | rfl | (simp [List.filter, rf_cat] <;> rfl)) (fun ls hl => ?_)
  refine lv_goto hx hb dPl_init_40 (tgt := 15) rfl ?_
  refine lv_iload_n hx hb dPl_init_15 rfl (lv_at hl 0 rfl) ?_
  refine lv_bipush hx hb dPl_init_16 (v := (6 : Int32)) rfl ?_
  refine lv_icmp_ge hx hb dPl_init_18 (tgt := 43) rfl (fun hc => absurd hc (by decide)) (fun _ => ?_)
  refine lv_aload_n hx hb dPl_init_21 rfl (lv_at hl 1 rfl) ?_
  replace h := ob h; obtain ⟨r17, er17, h⟩ := h
  refine hq_get hx hb hts hown hW (gR_V er17) (F_Pl_11 hts) dPl_init_22 ?_
  refine lv_iload_n hx hb dPl_init_25 rfl (lv_at hl 0 rfl) ?_
  refine hq_new (ci := 5) (fs := [.int 0, .null, .null, .null, .null, .int 0, .int 0, .int 0, .int 0]) (C := "SerialPlant$Slave") (T := TSl) (N := 9) (ce := 17) (sl := 186) hx hb hts inSl tySl tySl_ok hown (hts _ w_19) (hts _ w_21) (hts _ w_2) hW rfl dfSl rfl rfl (Nat.le_of_ble_eq_true rfl) (Nat.le_of_ble_eq_true rfl) dPl_init_26 (fun H hW => ?_)
  refine lv_dup hx hb dPl_init_29 rfl ?_
  refine lv_iload_n hx hb dPl_init_30 rfl (lv_at hl 0 rfl) ?_
  refine lv_iconst hx hb dPl_init_31 (v := (1 : Int32)) rfl ?_
  refine lv_iadd hx hb dPl_init_32 ?_
  replace h := ob h; obtain ⟨S18, eS18, h⟩ := h
  refine hq_callv (ce := 21) (sl := 234) (va_runI (As := [.int ((3 : Int32) + (1 : Int32))]) (rest := [.ref S15.1, .int (3 : Int32), va_rf r17]) ⟨hx, hb, hml, hown, hts⟩ (kSl_init l D tc b S15.1 ((3 : Int32) + (1 : Int32)) (S15.add (.inr (5, [.int 0, .null, .null, .null, .null, .int 0, .int 0, .int 0, .int 0]))) _ eS18) (cwI 1 hts G0_Sl_init rfl rfl rfl (hts _ w_2) (hts _ w_22) (hts _ w_23) rfl hd_Sl_init_I ⟨Nat.le_of_ble_eq_true rfl, Nat.le_of_ble_eq_true rfl⟩) (hq_preS hW) rfl rfl hl.1 rfl (lv_room (by first | exact Nat.le_of_ble_eq_true rfl | (simp only [List.map, rf_cat]; exact Nat.le_of_ble_eq_true rfl))) dPl_init_33 ⟨Nat.le_of_ble_eq_true rfl, Nat.le_of_ble_eq_true rfl⟩) hW rfl rfl (fun H locs hW => ?_)
  replace h := ob h; obtain ⟨a19, hra19, h⟩ := h
  subst hra19
  replace h := ob h; obtain ⟨z21, ez21, h⟩ := h
  replace h := ob h; obtain ⟨S20, eS20, h⟩ := h
  refine hq_aast (x := (some S15.1)) hx hb hW ez21 eS20 rfl (fk1 ⟨_, rfl, Or.inl rfl⟩) dPl_init_36 (fun H locs hW => ?_)
  refine lv_iinc (k := 0) (v := (4 : Int32)) (lv' := [(1, .int (4 : Int32)), (0, .ref t0)]) hx hb dPl_init_37 hl rfl rfl (Nat.le_of_ble_eq_true rfl) (by first | rfl | (simp [List.filter, rf_cat] <;> rfl)) (fun ls hl => ?_)
  refine lv_goto hx hb dPl_init_40 (tgt := 15) rfl ?_
  refine lv_iload_n hx hb dPl_init_15 rfl (lv_at hl 0 rfl) ?_
  refine lv_bipush hx hb dPl_init_16 (v := (6 : Int32)) rfl ?_
  refine lv_icmp_ge hx hb dPl_init_18 (tgt := 43) rfl (fun hc => absurd hc (by decide)) (fun _ => ?_)
  refine lv_aload_n hx hb dPl_init_21 rfl (lv_at hl 1 rfl) ?_
  replace h := ob h; obtain ⟨r22, er22, h⟩ := h
  refine hq_get hx hb hts hown hW (gR_V er22) (F_Pl_11 hts) dPl_init_22 ?_
  refine lv_iload_n hx hb dPl_init_25 rfl (lv_at hl 0 rfl) ?_
  refine hq_new (ci := 5) (fs := [.int 0, .null, .null, .null, .null, .int 0, .int 0, .int 0, .int 0]) (C := "SerialPlant$Slave") (T := TSl) (N := 9) (ce := 22) (sl := 243) hx hb hts inSl tySl tySl_ok hown (hts _ w_19) (hts _ w_21) (hts _ w_2) hW rfl dfSl rfl rfl (Nat.le_of_ble_eq_true rfl) (Nat.le_of_ble_eq_true rfl) dPl_init_26 (fun H hW => ?_)
  refine lv_dup hx hb dPl_init_29 rfl ?_
  refine lv_iload_n hx hb dPl_init_30 rfl (lv_at hl 0 rfl) ?_
  refine lv_iconst hx hb dPl_init_31 (v := (1 : Int32)) rfl ?_
  refine lv_iadd hx hb dPl_init_32 ?_
  replace h := ob h; obtain ⟨S23, eS23, h⟩ := h
  refine hq_callv (ce := 26) (sl := 291) (va_runI (As := [.int ((4 : Int32) + (1 : Int32))]) (rest := [.ref S20.1, .int (4 : Int32), va_rf r22]) ⟨hx, hb, hml, hown, hts⟩ (kSl_init l D tc b S20.1 ((4 : Int32) + (1 : Int32)) (S20.add (.inr (5, [.int 0, .null, .null, .null, .null, .int 0, .int 0, .int 0, .int 0]))) _ eS23) (cwI 1 hts G0_Sl_init rfl rfl rfl (hts _ w_2) (hts _ w_22) (hts _ w_23) rfl hd_Sl_init_I ⟨Nat.le_of_ble_eq_true rfl, Nat.le_of_ble_eq_true rfl⟩) (hq_preS hW) rfl rfl hl.1 rfl (lv_room (by first | exact Nat.le_of_ble_eq_true rfl | (simp only [List.map, rf_cat]; exact Nat.le_of_ble_eq_true rfl))) dPl_init_33 ⟨Nat.le_of_ble_eq_true rfl, Nat.le_of_ble_eq_true rfl⟩) hW rfl rfl (fun H locs hW => ?_)
  replace h := ob h; obtain ⟨a24, hra24, h⟩ := h
  subst hra24
  replace h := ob h; obtain ⟨z26, ez26, h⟩ := h
  replace h := ob h; obtain ⟨S25, eS25, h⟩ := h
  refine hq_aast (x := (some S20.1)) hx hb hW ez26 eS25 rfl (fk1 ⟨_, rfl, Or.inl rfl⟩) dPl_init_36 (fun H locs hW => ?_)
  refine lv_iinc (k := 0) (v := (5 : Int32)) (lv' := [(1, .int (5 : Int32)), (0, .ref t0)]) hx hb dPl_init_37 hl rfl rfl (Nat.le_of_ble_eq_true rfl) (by first | rfl | (simp [List.filter, rf_cat] <;> rfl)) (fun ls hl => ?_)
  refine lv_goto hx hb dPl_init_40 (tgt := 15) rfl ?_
  refine lv_iload_n hx hb dPl_init_15 rfl (lv_at hl 0 rfl) ?_
  refine lv_bipush hx hb dPl_init_16 (v := (6 : Int32)) rfl ?_
  refine lv_icmp_ge hx hb dPl_init_18 (tgt := 43) rfl (fun hc => absurd hc (by decide)) (fun _ => ?_)
  refine lv_aload_n hx hb dPl_init_21 rfl (lv_at hl 1 rfl) ?_
  replace h := ob h; obtain ⟨r27, er27, h⟩ := h
  refine hq_get hx hb hts hown hW (gR_V er27) (F_Pl_11 hts) dPl_init_22 ?_
  refine lv_iload_n hx hb dPl_init_25 rfl (lv_at hl 0 rfl) ?_
  refine hq_new (ci := 5) (fs := [.int 0, .null, .null, .null, .null, .int 0, .int 0, .int 0, .int 0]) (C := "SerialPlant$Slave") (T := TSl) (N := 9) (ce := 27) (sl := 300) hx hb hts inSl tySl tySl_ok hown (hts _ w_19) (hts _ w_21) (hts _ w_2) hW rfl dfSl rfl rfl (Nat.le_of_ble_eq_true rfl) (Nat.le_of_ble_eq_true rfl) dPl_init_26 (fun H hW => ?_)
  refine lv_dup hx hb dPl_init_29 rfl ?_
  refine lv_iload_n hx hb dPl_init_30 rfl (lv_at hl 0 rfl) ?_
  refine lv_iconst hx hb dPl_init_31 (v := (1 : Int32)) rfl ?_
  refine lv_iadd hx hb dPl_init_32 ?_
  replace h := ob h; obtain ⟨S28, eS28, h⟩ := h
  refine hq_callv (ce := 31) (sl := 348) (va_runI (As := [.int ((5 : Int32) + (1 : Int32))]) (rest := [.ref S25.1, .int (5 : Int32), va_rf r27]) ⟨hx, hb, hml, hown, hts⟩ (kSl_init l D tc b S25.1 ((5 : Int32) + (1 : Int32)) (S25.add (.inr (5, [.int 0, .null, .null, .null, .null, .int 0, .int 0, .int 0, .int 0]))) _ eS28) (cwI 1 hts G0_Sl_init rfl rfl rfl (hts _ w_2) (hts _ w_22) (hts _ w_23) rfl hd_Sl_init_I ⟨Nat.le_of_ble_eq_true rfl, Nat.le_of_ble_eq_true rfl⟩) (hq_preS hW) rfl rfl hl.1 rfl (lv_room (by first | exact Nat.le_of_ble_eq_true rfl | (simp only [List.map, rf_cat]; exact Nat.le_of_ble_eq_true rfl))) dPl_init_33 ⟨Nat.le_of_ble_eq_true rfl, Nat.le_of_ble_eq_true rfl⟩) hW rfl rfl (fun H locs hW => ?_)
  replace h := ob h; obtain ⟨a29, hra29, h⟩ := h
  subst hra29
  replace h := ob h; obtain ⟨z31, ez31, h⟩ := h
  replace h := ob h; obtain ⟨S30, eS30, h⟩ := h
  refine hq_aast (x := (some S25.1)) hx hb hW ez31 eS30 rfl (fk1 ⟨_, rfl, Or.inl rfl⟩) dPl_init_36 (fun H locs hW => ?_)
  refine lv_iinc (k := 0) (v := (6 : Int32)) (lv' := [(1, .int (6 : Int32)), (0, .ref t0)]) hx hb dPl_init_37 hl rfl rfl (Nat.le_of_ble_eq_true rfl) (by first | rfl | (simp [List.filter, rf_cat] <;> rfl)) (fun ls hl => ?_)
  refine lv_goto hx hb dPl_init_40 (tgt := 15) rfl ?_
  refine lv_iload_n hx hb dPl_init_15 rfl (lv_at hl 0 rfl) ?_
  refine lv_bipush hx hb dPl_init_16 (v := (6 : Int32)) rfl ?_
  refine lv_icmp_ge hx hb dPl_init_18 (tgt := 43) rfl (fun _ => ?_) (fun hc => absurd (by decide) hc)
  refine lv_aload_n hx hb dPl_init_43 rfl (lv_at hl 1 rfl) ?_
  refine lv_iconst hx hb dPl_init_44 (v := (2 : Int32)) rfl ?_
  refine hq_newq (C := "SerialPlant$Line") (N := 2) (ce := 32) (sl := 350) hx hb hown (hts _ w_57) hW.nw.2.2.2.2.1 hW 4 rfl (by decide) rfl (by decide) rfl rfl (Nat.le_of_ble_eq_true rfl) (Nat.le_of_ble_eq_true rfl) dPl_init_45 (fun H hW => ?_)
  replace h := ob h; obtain ⟨S32, eS32, h⟩ := h
  refine hq_put hx hb hts hown hW eS32 (F_Pl_20 hts) (P_Pl_Pl_1 hnm) rfl rfl dPl_init_48 (fun H locs hW => ?_)
  refine lv_iconst hx hb dPl_init_51 (v := (0 : Int32)) rfl ?_
  refine lv_istore_n (lv' := [(1, .int (0 : Int32)), (0, .ref t0)]) hx hb dPl_init_52 rfl hl (Nat.le_of_ble_eq_true rfl) (by first | rfl | (simp [List.filter, rf_cat] <;> rfl)) (fun ls hl => ?_)
  refine lv_iload_n hx hb dPl_init_53 rfl (lv_at hl 0 rfl) ?_
  refine lv_iconst hx hb dPl_init_54 (v := (2 : Int32)) rfl ?_
  refine lv_icmp_ge hx hb dPl_init_55 (tgt := 78) rfl (fun hc => absurd hc (by decide)) (fun _ => ?_)
  refine lv_aload_n hx hb dPl_init_58 rfl (lv_at hl 1 rfl) ?_
  replace h := ob h; obtain ⟨r33, er33, h⟩ := h
  refine hq_get hx hb hts hown hW (gR_V er33) (F_Pl_20 hts) dPl_init_59 ?_
  refine lv_iload_n hx hb dPl_init_62 rfl (lv_at hl 0 rfl) ?_
  refine hq_new (ci := 2) (fs := [.int 0, .null, .null, .null, .int 0, .null, .int 0, .int 0, .int 0]) (C := "SerialPlant$Line") (T := TLi) (N := 9) (ce := 33) (sl := 359) hx hb hts inLi tyLi tyLi_ok hown (hts _ w_57) (hts _ w_59) (hts _ w_3) hW rfl dfLi rfl rfl (Nat.le_of_ble_eq_true rfl) (Nat.le_of_ble_eq_true rfl) dPl_init_63 (fun H hW => ?_)
  refine lv_dup hx hb dPl_init_66 rfl ?_
  refine lv_iload_n hx hb dPl_init_67 rfl (lv_at hl 0 rfl) ?_
  replace h := ob h; obtain ⟨S34, eS34, h⟩ := h
  refine hq_callv (ce := 40) (sl := 453) (va_runI (As := [.int (0 : Int32)]) (rest := [.ref S32.1, .int (0 : Int32), va_rf r33]) ⟨hx, hb, hml, hown, hts⟩ (kLi_init l D tc b S32.1 (0 : Int32) (S32.add (.inr (2, [.int 0, .null, .null, .null, .int 0, .null, .int 0, .int 0, .int 0]))) _ eS34) (cwI 1 hts G0_Li_init rfl rfl rfl (hts _ w_3) (hts _ w_60) (hts _ w_61) rfl hd_Li_init_I ⟨Nat.le_of_ble_eq_true rfl, Nat.le_of_ble_eq_true rfl⟩) (hq_preS hW) rfl rfl hl.1 rfl (lv_room (by first | exact Nat.le_of_ble_eq_true rfl | (simp only [List.map, rf_cat]; exact Nat.le_of_ble_eq_true rfl))) dPl_init_68 ⟨Nat.le_of_ble_eq_true rfl, Nat.le_of_ble_eq_true rfl⟩) hW rfl rfl (fun H locs hW => ?_)
  replace h := ob h; obtain ⟨a35, hra35, h⟩ := h
  subst hra35
  replace h := ob h; obtain ⟨z37, ez37, h⟩ := h
  replace h := ob h; obtain ⟨S36, eS36, h⟩ := h
  refine hq_aast (x := (some S32.1)) hx hb hW ez37 eS36 rfl (fk1 ⟨_, rfl, Or.inl rfl⟩) dPl_init_71 (fun H locs hW => ?_)
  refine lv_iinc (k := 0) (v := (1 : Int32)) (lv' := [(1, .int (1 : Int32)), (0, .ref t0)]) hx hb dPl_init_72 hl rfl rfl (Nat.le_of_ble_eq_true rfl) (by first | rfl | (simp [List.filter, rf_cat] <;> rfl)) (fun ls hl => ?_)
  refine lv_goto hx hb dPl_init_75 (tgt := 53) rfl ?_
  refine lv_iload_n hx hb dPl_init_53 rfl (lv_at hl 0 rfl) ?_
  refine lv_iconst hx hb dPl_init_54 (v := (2 : Int32)) rfl ?_
  refine lv_icmp_ge hx hb dPl_init_55 (tgt := 78) rfl (fun hc => absurd hc (by decide)) (fun _ => ?_)
  refine lv_aload_n hx hb dPl_init_58 rfl (lv_at hl 1 rfl) ?_
  replace h := ob h; obtain ⟨r38, er38, h⟩ := h
  refine hq_get hx hb hts hown hW (gR_V er38) (F_Pl_20 hts) dPl_init_59 ?_
  refine lv_iload_n hx hb dPl_init_62 rfl (lv_at hl 0 rfl) ?_
  refine hq_new (ci := 2) (fs := [.int 0, .null, .null, .null, .int 0, .null, .int 0, .int 0, .int 0]) (C := "SerialPlant$Line") (T := TLi) (N := 9) (ce := 41) (sl := 462) hx hb hts inLi tyLi tyLi_ok hown (hts _ w_57) (hts _ w_59) (hts _ w_3) hW rfl dfLi rfl rfl (Nat.le_of_ble_eq_true rfl) (Nat.le_of_ble_eq_true rfl) dPl_init_63 (fun H hW => ?_)
  refine lv_dup hx hb dPl_init_66 rfl ?_
  refine lv_iload_n hx hb dPl_init_67 rfl (lv_at hl 0 rfl) ?_
  replace h := ob h; obtain ⟨S39, eS39, h⟩ := h
  refine hq_callv (ce := 48) (sl := 556) (va_runI (As := [.int (1 : Int32)]) (rest := [.ref S36.1, .int (1 : Int32), va_rf r38]) ⟨hx, hb, hml, hown, hts⟩ (kLi_init l D tc b S36.1 (1 : Int32) (S36.add (.inr (2, [.int 0, .null, .null, .null, .int 0, .null, .int 0, .int 0, .int 0]))) _ eS39) (cwI 1 hts G0_Li_init rfl rfl rfl (hts _ w_3) (hts _ w_60) (hts _ w_61) rfl hd_Li_init_I ⟨Nat.le_of_ble_eq_true rfl, Nat.le_of_ble_eq_true rfl⟩) (hq_preS hW) rfl rfl hl.1 rfl (lv_room (by first | exact Nat.le_of_ble_eq_true rfl | (simp only [List.map, rf_cat]; exact Nat.le_of_ble_eq_true rfl))) dPl_init_68 ⟨Nat.le_of_ble_eq_true rfl, Nat.le_of_ble_eq_true rfl⟩) hW rfl rfl (fun H locs hW => ?_)
  replace h := ob h; obtain ⟨a40, hra40, h⟩ := h
  subst hra40
  replace h := ob h; obtain ⟨z42, ez42, h⟩ := h
  replace h := ob h; obtain ⟨S41, eS41, h⟩ := h
  refine hq_aast (x := (some S36.1)) hx hb hW ez42 eS41 rfl (fk1 ⟨_, rfl, Or.inl rfl⟩) dPl_init_71 (fun H locs hW => ?_)
  refine lv_iinc (k := 0) (v := (2 : Int32)) (lv' := [(1, .int (2 : Int32)), (0, .ref t0)]) hx hb dPl_init_72 hl rfl rfl (Nat.le_of_ble_eq_true rfl) (by first | rfl | (simp [List.filter, rf_cat] <;> rfl)) (fun ls hl => ?_)
  refine lv_goto hx hb dPl_init_75 (tgt := 53) rfl ?_
  refine lv_iload_n hx hb dPl_init_53 rfl (lv_at hl 0 rfl) ?_
  refine lv_iconst hx hb dPl_init_54 (v := (2 : Int32)) rfl ?_
  refine lv_icmp_ge hx hb dPl_init_55 (tgt := 78) rfl (fun _ => ?_) (fun hc => absurd (by decide) hc)
  refine lv_aload_n hx hb dPl_init_78 rfl (lv_at hl 1 rfl) ?_
  refine lv_bipush hx hb dPl_init_79 (v := (64 : Int32)) rfl ?_
  refine hq_newq (C := "SerialPlant$Request") (N := 64) (ce := 49) (sl := 620) hx hb hown (hts _ w_129) hW.nw.2.2.2.2.2.2.1 hW 5 rfl (by decide) rfl (by decide) rfl rfl (Nat.le_of_ble_eq_true rfl) (Nat.le_of_ble_eq_true rfl) dPl_init_81 (fun H hW => ?_)
  replace h := ob h; obtain ⟨S43, eS43, h⟩ := h
  refine hq_put hx hb hts hown hW eS43 (F_Pl_27 hts) (P_Pl_Pl_2 hnm) rfl rfl dPl_init_84 (fun H locs hW => ?_)
  refine lv_aload_n hx hb dPl_init_87 rfl (lv_at hl 1 rfl) ?_
  refine lv_iconst hx hb dPl_init_88 (v := (4 : Int32)) rfl ?_
  refine hq_newq (C := "SerialPlant$Poll") (N := 4) (ce := 50) (sl := 624) hx hb hown (hts _ w_131) hW.nw.2.2.2.2.2.2.2 hW 6 rfl (by decide) rfl (by decide) rfl rfl (Nat.le_of_ble_eq_true rfl) (Nat.le_of_ble_eq_true rfl) dPl_init_89 (fun H hW => ?_)
  replace h := ob h; obtain ⟨S44, eS44, h⟩ := h
  refine hq_put hx hb hts hown hW eS44 (F_Pl_33 hts) (P_Pl_Pl_3 hnm) rfl rfl dPl_init_92 (fun H locs hW => ?_)
  refine lv_aload_n hx hb dPl_init_95 rfl (lv_at hl 1 rfl) ?_
  refine hq_new (ci := 1) (fs := [.null, .null, .null, .null, .int 0, .int 0]) (C := "SerialPlant$History") (T := THi) (N := 6) (ce := 51) (sl := 630) hx hb hts inHi tyHi tyHi_ok hown (hts _ w_133) (hts _ w_134) (hts _ w_6) hW rfl dfHi rfl rfl (Nat.le_of_ble_eq_true rfl) (Nat.le_of_ble_eq_true rfl) dPl_init_96 (fun H hW => ?_)
  refine lv_dup hx hb dPl_init_99 rfl ?_
  replace h := ob h; obtain ⟨S45, eS45, h⟩ := h
  refine hq_callv (ce := 55) (sl := 670) (va_runIN (As := []) (rest := [.ref S44.1, .ref t0]) ⟨hx, hb, hml, hown, hts⟩ (kHi_init l D tc b S44.1 (S44.add (.inr (1, [.null, .null, .null, .null, .int 0, .int 0]))) _ eS45) ⟨va_cnB 0 hts G0_Hi_init rfl rfl rfl hW.nw.1.2.2 (hts _ w_6) hd_Hi_init_I ⟨Nat.le_of_ble_eq_true rfl, Nat.le_of_ble_eq_true rfl⟩, rfl, hts _ w_136⟩ (hq_preS hW) rfl rfl hl.1 rfl (lv_room (by first | exact Nat.le_of_ble_eq_true rfl | (simp only [List.map, rf_cat]; exact Nat.le_of_ble_eq_true rfl))) dPl_init_100 ⟨Nat.le_of_ble_eq_true rfl, Nat.le_of_ble_eq_true rfl⟩) hW rfl rfl (fun H locs hW => ?_)
  replace h := ob h; obtain ⟨S46, eS46, h⟩ := h
  refine hq_put hx hb hts hown hW eS46 (F_Pl_40 hts) (P_Pl_Pl_4 hnm) rfl rfl dPl_init_103 (fun H locs hW => ?_)
  exact hq_vret hx hb hr hlocks h (Nat.le_of_ble_eq_true rfl) (Nat.le_of_ble_eq_true rfl) hW dPl_init_106
def fPl_isSlave (t0 : Int32) (S : Ws) : Option (Int32 × Ws) :=
  if t0 < (1 : Int32) then (bz (0 : Int32)).bind fun z1 => some ((0 : Int32), S) else if (6 : Int32) < t0 then (bz (0 : Int32)).bind fun z2 => some ((0 : Int32), S) else (bz (1 : Int32)).bind fun z3 => some ((1 : Int32), S)
set_option maxRecDepth 100000 in
set_option maxHeartbeats 4000000 in
theorem kPl_isSlave (l : Launch) (D : va_G) (tc : Nat → ClassId) (b : Nat) (t0 : Int32) (S Sz : Ws) (rr : Int32) (h : fPl_isSlave t0 S = some (rr, Sz)) : Met l yPl_isSlave wsPl_isSlave { frames := 1, cells := 0, slots := 0, locals := 40 } (va_Pc [.int t0] (Wp D vwCl (hTy tc) b S)) (va_Qi (fun x (_ : Unit) => x = rr) (fun _ => Wp D vwCl (hTy tc) b Sz) (fun q => b ≤ q)) 0 0 (fun q => b ≤ q) := by
  refine hq_ofW (cc := cPl_isSlave) (maxL := 1) (ret := (some .boolean)) (by decide) rfl (Nat.le_of_ble_eq_true rfl) fun p e s m args below meth c hx hb hr hts hown hlocks hnm hml H locs ls hl hW => ?_
  have hts : ∀ w ∈ lwG, w.before args s = true := fun w h => hts w (List.mem_cons_of_mem _ h)
  have hown : s.vm.findClass "SerialPlant" = some m.cls := hown
  have hl : lv_has ls 1 [(0, .int t0)] := hl
  unfold fPl_isSlave at h
  refine lv_iload_n hx hb dPl_isSlave_0 rfl (lv_at hl 0 rfl) ?_
  refine lv_iconst hx hb dPl_isSlave_1 (v := (1 : Int32)) rfl ?_
  refine lv_icmp_lt hx hb dPl_isSlave_2 (tgt := 15) rfl (fun hc5 => ?_) (fun hc5 => ?_)
  · replace h := if_t hc5 h
    refine lv_iconst hx hb dPl_isSlave_15 (v := (0 : Int32)) rfl ?_
    replace h := ob h; obtain ⟨z1, ez1, h⟩ := h
    exact hq_zret hx hb hr hlocks (bz_some ez1).2 h (Nat.le_of_ble_eq_true rfl) (Nat.le_of_ble_eq_true rfl) hW dPl_isSlave_16
  · replace h := if_f hc5 h
    refine lv_iload_n hx hb dPl_isSlave_5 rfl (lv_at hl 0 rfl) ?_
    refine lv_bipush hx hb dPl_isSlave_6 (v := (6 : Int32)) rfl ?_
    refine lv_icmp_gt hx hb dPl_isSlave_8 (tgt := 15) rfl (fun hc4 => ?_) (fun hc4 => ?_)
    · replace h := if_t hc4 h
      refine lv_iconst hx hb dPl_isSlave_15 (v := (0 : Int32)) rfl ?_
      replace h := ob h; obtain ⟨z2, ez2, h⟩ := h
      exact hq_zret hx hb hr hlocks (bz_some ez2).2 h (Nat.le_of_ble_eq_true rfl) (Nat.le_of_ble_eq_true rfl) hW dPl_isSlave_16
    · replace h := if_f hc4 h
      refine lv_iconst hx hb dPl_isSlave_11 (v := (1 : Int32)) rfl ?_
      refine lv_goto hx hb dPl_isSlave_12 (tgt := 16) rfl ?_
      replace h := ob h; obtain ⟨z3, ez3, h⟩ := h
      exact hq_zret hx hb hr hlocks (bz_some ez3).2 h (Nat.le_of_ble_eq_true rfl) (Nat.le_of_ble_eq_true rfl) hW dPl_isSlave_16
def fPl_isLine (t0 : Int32) (S : Ws) : Option (Int32 × Ws) :=
  if t0 < 0 then (bz (0 : Int32)).bind fun z1 => some ((0 : Int32), S) else if (2 : Int32) ≤ t0 then (bz (0 : Int32)).bind fun z2 => some ((0 : Int32), S) else (bz (1 : Int32)).bind fun z3 => some ((1 : Int32), S)
set_option maxRecDepth 100000 in
set_option maxHeartbeats 4000000 in
theorem kPl_isLine (l : Launch) (D : va_G) (tc : Nat → ClassId) (b : Nat) (t0 : Int32) (S Sz : Ws) (rr : Int32) (h : fPl_isLine t0 S = some (rr, Sz)) : Met l yPl_isLine wsPl_isLine { frames := 1, cells := 0, slots := 0, locals := 40 } (va_Pc [.int t0] (Wp D vwCl (hTy tc) b S)) (va_Qi (fun x (_ : Unit) => x = rr) (fun _ => Wp D vwCl (hTy tc) b Sz) (fun q => b ≤ q)) 0 0 (fun q => b ≤ q) := by
  refine hq_ofW (cc := cPl_isLine) (maxL := 1) (ret := (some .boolean)) (by decide) rfl (Nat.le_of_ble_eq_true rfl) fun p e s m args below meth c hx hb hr hts hown hlocks hnm hml H locs ls hl hW => ?_
  have hts : ∀ w ∈ lwG, w.before args s = true := fun w h => hts w (List.mem_cons_of_mem _ h)
  have hown : s.vm.findClass "SerialPlant" = some m.cls := hown
  have hl : lv_has ls 1 [(0, .int t0)] := hl
  unfold fPl_isLine at h
  refine lv_iload_n hx hb dPl_isLine_0 rfl (lv_at hl 0 rfl) ?_
  refine lv_if_lt hx hb dPl_isLine_1 (tgt := 13) rfl (fun hc5 => ?_) (fun hc5 => ?_)
  · replace h := if_t hc5 h
    refine lv_iconst hx hb dPl_isLine_13 (v := (0 : Int32)) rfl ?_
    replace h := ob h; obtain ⟨z1, ez1, h⟩ := h
    exact hq_zret hx hb hr hlocks (bz_some ez1).2 h (Nat.le_of_ble_eq_true rfl) (Nat.le_of_ble_eq_true rfl) hW dPl_isLine_14
  · replace h := if_f hc5 h
    refine lv_iload_n hx hb dPl_isLine_4 rfl (lv_at hl 0 rfl) ?_
    refine lv_iconst hx hb dPl_isLine_5 (v := (2 : Int32)) rfl ?_
    refine lv_icmp_ge hx hb dPl_isLine_6 (tgt := 13) rfl (fun hc4 => ?_) (fun hc4 => ?_)
    · replace h := if_t hc4 h
      refine lv_iconst hx hb dPl_isLine_13 (v := (0 : Int32)) rfl ?_
      replace h := ob h; obtain ⟨z2, ez2, h⟩ := h
      exact hq_zret hx hb hr hlocks (bz_some ez2).2 h (Nat.le_of_ble_eq_true rfl) (Nat.le_of_ble_eq_true rfl) hW dPl_isLine_14
    · replace h := if_f hc4 h
      refine lv_iconst hx hb dPl_isLine_9 (v := (1 : Int32)) rfl ?_
      refine lv_goto hx hb dPl_isLine_10 (tgt := 14) rfl ?_
      replace h := ob h; obtain ⟨z3, ez3, h⟩ := h
      exact hq_zret hx hb hr hlocks (bz_some ez3).2 h (Nat.le_of_ble_eq_true rfl) (Nat.le_of_ble_eq_true rfl) hW dPl_isLine_14
def fPl_isWithin (t0 : Int32) (t1 : Int32) (S : Ws) : Option (Int32 × Ws) :=
  if t0 < 0 then (bz (0 : Int32)).bind fun z1 => some ((0 : Int32), S) else if t1 < t0 then (bz (0 : Int32)).bind fun z2 => some ((0 : Int32), S) else (bz (1 : Int32)).bind fun z3 => some ((1 : Int32), S)
set_option maxRecDepth 100000 in
set_option maxHeartbeats 4000000 in
theorem kPl_isWithin (l : Launch) (D : va_G) (tc : Nat → ClassId) (b : Nat) (t0 : Int32) (t1 : Int32) (S Sz : Ws) (rr : Int32) (h : fPl_isWithin t0 t1 S = some (rr, Sz)) : Met l yPl_isWithin wsPl_isWithin { frames := 1, cells := 0, slots := 0, locals := 40 } (va_Pc [.int t0, .int t1] (Wp D vwCl (hTy tc) b S)) (va_Qi (fun x (_ : Unit) => x = rr) (fun _ => Wp D vwCl (hTy tc) b Sz) (fun q => b ≤ q)) 0 0 (fun q => b ≤ q) := by
  refine hq_ofW (cc := cPl_isWithin) (maxL := 2) (ret := (some .boolean)) (by decide) rfl (Nat.le_of_ble_eq_true rfl) fun p e s m args below meth c hx hb hr hts hown hlocks hnm hml H locs ls hl hW => ?_
  have hts : ∀ w ∈ lwG, w.before args s = true := fun w h => hts w (List.mem_cons_of_mem _ h)
  have hown : s.vm.findClass "SerialPlant" = some m.cls := hown
  have hl : lv_has ls 2 [(0, .int t0), (1, .int t1)] := hl
  unfold fPl_isWithin at h
  refine lv_iload_n hx hb dPl_isWithin_0 rfl (lv_at hl 0 rfl) ?_
  refine lv_if_lt hx hb dPl_isWithin_1 (tgt := 13) rfl (fun hc5 => ?_) (fun hc5 => ?_)
  · replace h := if_t hc5 h
    refine lv_iconst hx hb dPl_isWithin_13 (v := (0 : Int32)) rfl ?_
    replace h := ob h; obtain ⟨z1, ez1, h⟩ := h
    exact hq_zret hx hb hr hlocks (bz_some ez1).2 h (Nat.le_of_ble_eq_true rfl) (Nat.le_of_ble_eq_true rfl) hW dPl_isWithin_14
  · replace h := if_f hc5 h
    refine lv_iload_n hx hb dPl_isWithin_4 rfl (lv_at hl 0 rfl) ?_
    refine lv_iload_n hx hb dPl_isWithin_5 rfl (lv_at hl 1 rfl) ?_
    refine lv_icmp_gt hx hb dPl_isWithin_6 (tgt := 13) rfl (fun hc4 => ?_) (fun hc4 => ?_)
    · replace h := if_t hc4 h
      refine lv_iconst hx hb dPl_isWithin_13 (v := (0 : Int32)) rfl ?_
      replace h := ob h; obtain ⟨z2, ez2, h⟩ := h
      exact hq_zret hx hb hr hlocks (bz_some ez2).2 h (Nat.le_of_ble_eq_true rfl) (Nat.le_of_ble_eq_true rfl) hW dPl_isWithin_14
    · replace h := if_f hc4 h
      refine lv_iconst hx hb dPl_isWithin_9 (v := (1 : Int32)) rfl ?_
      refine lv_goto hx hb dPl_isWithin_10 (tgt := 14) rfl ?_
      replace h := ob h; obtain ⟨z3, ez3, h⟩ := h
      exact hq_zret hx hb hr hlocks (bz_some ez3).2 h (Nat.le_of_ble_eq_true rfl) (Nat.le_of_ble_eq_true rfl) hW dPl_isWithin_14
def fPl_attach (t0 : Nat) (t1 : Int32) (t2 : Int32) (t3 : Int32) (S : Ws) : Option (Int32 × Ws) :=
  (fPl_isSlave t1 S).bind fun (v2, S1) => if v2 = 0 then (bz (0 : Int32)).bind fun z3 => some ((0 : Int32), S1) else (fPl_isLine t2 S1).bind fun (v5, S4) => if v5 = 0 then (bz (0 : Int32)).bind fun z6 => some ((0 : Int32), S4) else (fPl_isWithin t3 (5 : Int32) S4).bind fun (v8, S7) => if v8 = 0 then (bz (0 : Int32)).bind fun z21 => some ((0 : Int32), S7) else (gR S7 t0 [7] 0).bind fun r9 => (r9).bind fun a10 => (aR S7 a10 3 (t1 - (1 : Int32))).bind fun r11 => (r11).bind fun a12 => (gO S7 a12 [5]).bind fun q15 => (fSl_isAttached a12 S7).bind fun (v14, S13) => if v14 = 0 then (pV S13 a12 [5] 5 (.int t2)).bind fun S16 => (pV S16 a12 [5] 6 (.int t3)).bind fun S17 => (bz (1 : Int32)).bind fun z18 => some ((1 : Int32), S17) else (bz (0 : Int32)).bind fun z19 => some ((0 : Int32), S13)
set_option maxRecDepth 100000 in
set_option maxHeartbeats 4000000 in
theorem kPl_attach (l : Launch) (D : va_G) (tc : Nat → ClassId) (b : Nat) (t0 : Nat) (t1 : Int32) (t2 : Int32) (t3 : Int32) (S Sz : Ws) (rr : Int32) (h : fPl_attach t0 t1 t2 t3 S = some (rr, Sz)) : Met l yPl_attach wsPl_attach { frames := 2, cells := 0, slots := 0, locals := 80 } (va_Pc [.ref t0, .int t1, .int t2, .int t3] (Wp D vwCl (hTy tc) b S)) (va_Qi (fun x (_ : Unit) => x = rr) (fun _ => Wp D vwCl (hTy tc) b Sz) (fun q => b ≤ q)) 0 0 (fun q => b ≤ q) := by
  refine hq_ofW (cc := cPl_attach) (maxL := 5) (ret := (some .boolean)) (by decide) rfl (Nat.le_of_ble_eq_true rfl) fun p e s m args below meth c hx hb hr hts hown hlocks hnm hml H locs ls hl hW => ?_
  have hts : ∀ w ∈ lwG, w.before args s = true := fun w h => hts w (List.mem_cons_of_mem _ h)
  have hown : s.vm.findClass "SerialPlant" = some m.cls := hown
  have hl : lv_has ls 5 [(0, .ref t0), (1, .int t1), (2, .int t2), (3, .int t3)] := hl
  unfold fPl_attach at h
  refine lv_iload_n hx hb dPl_attach_0 rfl (lv_at hl 1 rfl) ?_
  replace h := ob h; obtain ⟨⟨v2, S1⟩, eS1, h⟩ := h
  refine hq_calli (ce := 0) (sl := 0) (va_runS (As := [.int t1]) (rest := []) ⟨hx, hb, hml, hown, hts⟩ (kPl_isSlave l D tc b t1 S _ _ eS1) (cwS 1 hts GS_Pl_44 rfl rfl rfl hd_Pl_isSlave_S_Pl ⟨Nat.le_of_ble_eq_true rfl, Nat.le_of_ble_eq_true rfl⟩) (hq_preS hW) rfl rfl hl.1 rfl (lv_room (by first | exact Nat.le_of_ble_eq_true rfl | (simp only [List.map, rf_cat]; exact Nat.le_of_ble_eq_true rfl))) dPl_attach_1 ⟨Nat.le_of_ble_eq_true rfl, Nat.le_of_ble_eq_true rfl⟩) hW rfl rfl (fun H locs hW => ?_)
  refine lv_if_eq hx hb dPl_attach_4 (tgt := 22) rfl (fun hc24 => ?_) (fun hc24 => ?_)
  · replace h := if_t hc24 h
    refine lv_iconst hx hb dPl_attach_22 (v := (0 : Int32)) rfl ?_
    replace h := ob h; obtain ⟨z3, ez3, h⟩ := h
    exact hq_zret hx hb hr hlocks (bz_some ez3).2 h (Nat.le_of_ble_eq_true rfl) (Nat.le_of_ble_eq_true rfl) hW dPl_attach_23
  · replace h := if_f hc24 h
    refine lv_iload_n hx hb dPl_attach_7 rfl (lv_at hl 2 rfl) ?_
    replace h := ob h; obtain ⟨⟨v5, S4⟩, eS4, h⟩ := h
    refine hq_calli (ce := 0) (sl := 0) (va_runS (As := [.int t2]) (rest := []) ⟨hx, hb, hml, hown, hts⟩ (kPl_isLine l D tc b t2 S1 _ _ eS4) (cwS 1 hts GS_Pl_48 rfl rfl rfl hd_Pl_isLine_S_Pl ⟨Nat.le_of_ble_eq_true rfl, Nat.le_of_ble_eq_true rfl⟩) (hq_preS hW) rfl rfl hl.1 rfl (lv_room (by first | exact Nat.le_of_ble_eq_true rfl | (simp only [List.map, rf_cat]; exact Nat.le_of_ble_eq_true rfl))) dPl_attach_8 ⟨Nat.le_of_ble_eq_true rfl, Nat.le_of_ble_eq_true rfl⟩) hW rfl rfl (fun H locs hW => ?_)
    refine lv_if_eq hx hb dPl_attach_11 (tgt := 22) rfl (fun hc23 => ?_) (fun hc23 => ?_)
    · replace h := if_t hc23 h
      refine lv_iconst hx hb dPl_attach_22 (v := (0 : Int32)) rfl ?_
      replace h := ob h; obtain ⟨z6, ez6, h⟩ := h
      exact hq_zret hx hb hr hlocks (bz_some ez6).2 h (Nat.le_of_ble_eq_true rfl) (Nat.le_of_ble_eq_true rfl) hW dPl_attach_23
    · replace h := if_f hc23 h
      refine lv_iload_n hx hb dPl_attach_14 rfl (lv_at hl 3 rfl) ?_
      refine lv_iconst hx hb dPl_attach_15 (v := (5 : Int32)) rfl ?_
      replace h := ob h; obtain ⟨⟨v8, S7⟩, eS7, h⟩ := h
      refine hq_calli (ce := 0) (sl := 0) (va_runS (As := [.int t3, .int (5 : Int32)]) (rest := []) ⟨hx, hb, hml, hown, hts⟩ (kPl_isWithin l D tc b t3 (5 : Int32) S4 _ _ eS7) (cwS 2 hts GS_Pl_51 rfl rfl rfl hd_Pl_isWithin_S_Pl ⟨Nat.le_of_ble_eq_true rfl, Nat.le_of_ble_eq_true rfl⟩) (hq_preS hW) rfl rfl hl.1 rfl (lv_room (by first | exact Nat.le_of_ble_eq_true rfl | (simp only [List.map, rf_cat]; exact Nat.le_of_ble_eq_true rfl))) dPl_attach_16 ⟨Nat.le_of_ble_eq_true rfl, Nat.le_of_ble_eq_true rfl⟩) hW rfl rfl (fun H locs hW => ?_)
      refine lv_if_ne hx hb dPl_attach_19 (tgt := 24) rfl (fun hc22 => ?_) (fun hc22 => ?_)
      · replace h := if_f hc22 h
        refine lv_aload_n hx hb dPl_attach_24 rfl (lv_at hl 0 rfl) ?_
        replace h := ob h; obtain ⟨r9, er9, h⟩ := h
        refine hq_get hx hb hts hown hW (gR_V er9) (F_Pl_11 hts) dPl_attach_25 ?_
        refine lv_iload_n hx hb dPl_attach_28 rfl (lv_at hl 1 rfl) ?_
        refine lv_iconst hx hb dPl_attach_29 (v := (1 : Int32)) rfl ?_
        refine lv_isub hx hb dPl_attach_30 ?_
        replace h := ob h; obtain ⟨a10, hra10, h⟩ := h
        subst hra10
        replace h := ob h; obtain ⟨r11, er11, h⟩ := h
        refine hq_aald hx hb hW er11 rfl dPl_attach_31 ?_
        refine hq_astore (x := r11) (lv' := [(4, va_rf r11), (0, .ref t0), (1, .int t1), (2, .int t2), (3, .int t3)]) hx hb dPl_attach_32 hl (Nat.le_of_ble_eq_true rfl) (by first | rfl | (simp [List.filter, rf_cat] <;> rfl)) (fun ls hl => ?_)
        refine hq_aload (x := r11) hx hb dPl_attach_34 (lv_at hl 0 rfl) ?_
        replace h := ob h; obtain ⟨a12, hra12, h⟩ := h
        subst hra12
        replace h := ob h; obtain ⟨q15, eq15, h⟩ := h
        replace h := ob h; obtain ⟨⟨v14, S13⟩, eS13, h⟩ := h
        refine hq_calli (ce := 0) (sl := 0) (va_runV (As := []) (rest := []) ⟨hx, hb, hml, hown, hts⟩ (kSl_isAttached l D tc b a12 S7 _ _ eS13) (cwV 0 hts GV_Pl_55_Sl rfl rfl rfl hd_Sl_isAttached_V ⟨Nat.le_of_ble_eq_true rfl, Nat.le_of_ble_eq_true rfl⟩) (hq_preV1 hW eq15 rfl rfl) rfl rfl hl.1 rfl (lv_room (by first | exact Nat.le_of_ble_eq_true rfl | (simp only [List.map, rf_cat]; exact Nat.le_of_ble_eq_true rfl))) dPl_attach_36 ⟨Nat.le_of_ble_eq_true rfl, Nat.le_of_ble_eq_true rfl⟩) hW rfl rfl (fun H locs hW => ?_)
        refine lv_if_eq hx hb dPl_attach_39 (tgt := 44) rfl (fun hc20 => ?_) (fun hc20 => ?_)
        · replace h := if_t hc20 h
          refine lv_aload hx hb dPl_attach_44 (lv_at hl 0 rfl) ?_
          refine lv_iload_n hx hb dPl_attach_46 rfl (lv_at hl 3 rfl) ?_
          replace h := ob h; obtain ⟨S16, eS16, h⟩ := h
          refine hq_put hx hb hts hown hW eS16 (F_Pl_59 hts) P_Pl_Sl_5 rfl rfl dPl_attach_47 (fun H locs hW => ?_)
          refine lv_aload hx hb dPl_attach_50 (lv_at hl 0 rfl) ?_
          refine lv_iload_n hx hb dPl_attach_52 rfl (lv_at hl 4 rfl) ?_
          replace h := ob h; obtain ⟨S17, eS17, h⟩ := h
          refine hq_put hx hb hts hown hW eS17 (F_Pl_63 hts) P_Pl_Sl_6 rfl rfl dPl_attach_53 (fun H locs hW => ?_)
          refine lv_iconst hx hb dPl_attach_56 (v := (1 : Int32)) rfl ?_
          replace h := ob h; obtain ⟨z18, ez18, h⟩ := h
          exact hq_zret hx hb hr hlocks (bz_some ez18).2 h (Nat.le_of_ble_eq_true rfl) (Nat.le_of_ble_eq_true rfl) hW dPl_attach_57
        · replace h := if_f hc20 h
          refine lv_iconst hx hb dPl_attach_42 (v := (0 : Int32)) rfl ?_
          replace h := ob h; obtain ⟨z19, ez19, h⟩ := h
          exact hq_zret hx hb hr hlocks (bz_some ez19).2 h (Nat.le_of_ble_eq_true rfl) (Nat.le_of_ble_eq_true rfl) hW dPl_attach_43
      · replace h := if_t hc22 h
        refine lv_iconst hx hb dPl_attach_22 (v := (0 : Int32)) rfl ?_
        replace h := ob h; obtain ⟨z21, ez21, h⟩ := h
        exact hq_zret hx hb hr hlocks (bz_some ez21).2 h (Nat.le_of_ble_eq_true rfl) (Nat.le_of_ble_eq_true rfl) hW dPl_attach_23
def fPl_power (t0 : Nat) (t1 : Int32) (t2 : Int32) (S : Ws) : Option (Int32 × Ws) :=
  (fPl_isSlave t1 S).bind fun (v2, S1) => if v2 = 0 then (bz (0 : Int32)).bind fun z10 => some ((0 : Int32), S1) else (gR S1 t0 [7] 0).bind fun r3 => (r3).bind fun a4 => (aR S1 a4 3 (t1 - (1 : Int32))).bind fun r5 => (r5).bind fun a6 => (bz t2).bind fun z8 => (pV S1 a6 [5] 7 (.int t2)).bind fun S7 => (bz (1 : Int32)).bind fun z9 => some ((1 : Int32), S7)
set_option maxRecDepth 100000 in
set_option maxHeartbeats 4000000 in
theorem kPl_power (l : Launch) (D : va_G) (tc : Nat → ClassId) (b : Nat) (t0 : Nat) (t1 : Int32) (t2 : Int32) (S Sz : Ws) (rr : Int32) (h : fPl_power t0 t1 t2 S = some (rr, Sz)) : Met l yPl_power wsPl_power { frames := 2, cells := 0, slots := 0, locals := 80 } (va_Pc [.ref t0, .int t1, .int t2] (Wp D vwCl (hTy tc) b S)) (va_Qi (fun x (_ : Unit) => x = rr) (fun _ => Wp D vwCl (hTy tc) b Sz) (fun q => b ≤ q)) 0 0 (fun q => b ≤ q) := by
  refine hq_ofW (cc := cPl_power) (maxL := 3) (ret := (some .boolean)) (by decide) rfl (Nat.le_of_ble_eq_true rfl) fun p e s m args below meth c hx hb hr hts hown hlocks hnm hml H locs ls hl hW => ?_
  have hts : ∀ w ∈ lwG, w.before args s = true := fun w h => hts w (List.mem_cons_of_mem _ h)
  have hown : s.vm.findClass "SerialPlant" = some m.cls := hown
  have hl : lv_has ls 3 [(0, .ref t0), (1, .int t1), (2, .int t2)] := hl
  unfold fPl_power at h
  refine lv_iload_n hx hb dPl_power_0 rfl (lv_at hl 1 rfl) ?_
  replace h := ob h; obtain ⟨⟨v2, S1⟩, eS1, h⟩ := h
  refine hq_calli (ce := 0) (sl := 0) (va_runS (As := [.int t1]) (rest := []) ⟨hx, hb, hml, hown, hts⟩ (kPl_isSlave l D tc b t1 S _ _ eS1) (cwS 1 hts GS_Pl_44 rfl rfl rfl hd_Pl_isSlave_S_Pl ⟨Nat.le_of_ble_eq_true rfl, Nat.le_of_ble_eq_true rfl⟩) (hq_preS hW) rfl rfl hl.1 rfl (lv_room (by first | exact Nat.le_of_ble_eq_true rfl | (simp only [List.map, rf_cat]; exact Nat.le_of_ble_eq_true rfl))) dPl_power_1 ⟨Nat.le_of_ble_eq_true rfl, Nat.le_of_ble_eq_true rfl⟩) hW rfl rfl (fun H locs hW => ?_)
  refine lv_if_ne hx hb dPl_power_4 (tgt := 9) rfl (fun hc11 => ?_) (fun hc11 => ?_)
  · replace h := if_f hc11 h
    refine lv_aload_n hx hb dPl_power_9 rfl (lv_at hl 0 rfl) ?_
    replace h := ob h; obtain ⟨r3, er3, h⟩ := h
    refine hq_get hx hb hts hown hW (gR_V er3) (F_Pl_11 hts) dPl_power_10 ?_
    refine lv_iload_n hx hb dPl_power_13 rfl (lv_at hl 1 rfl) ?_
    refine lv_iconst hx hb dPl_power_14 (v := (1 : Int32)) rfl ?_
    refine lv_isub hx hb dPl_power_15 ?_
    replace h := ob h; obtain ⟨a4, hra4, h⟩ := h
    subst hra4
    replace h := ob h; obtain ⟨r5, er5, h⟩ := h
    refine hq_aald hx hb hW er5 rfl dPl_power_16 ?_
    refine lv_iload_n hx hb dPl_power_17 rfl (lv_at hl 2 rfl) ?_
    replace h := ob h; obtain ⟨a6, hra6, h⟩ := h
    subst hra6
    replace h := ob h; obtain ⟨z8, ez8, h⟩ := h
    replace h := ob h; obtain ⟨S7, eS7, h⟩ := h
    refine hq_put hx hb hts hown hW eS7 (F_Pl_66 hts) P_Pl_Sl_7 (bz_nar (bz_some ez8).2) (bz_fits (bz_some ez8).2) dPl_power_18 (fun H locs hW => ?_)
    refine lv_iconst hx hb dPl_power_21 (v := (1 : Int32)) rfl ?_
    replace h := ob h; obtain ⟨z9, ez9, h⟩ := h
    exact hq_zret hx hb hr hlocks (bz_some ez9).2 h (Nat.le_of_ble_eq_true rfl) (Nat.le_of_ble_eq_true rfl) hW dPl_power_22
  · replace h := if_t hc11 h
    refine lv_iconst hx hb dPl_power_7 (v := (0 : Int32)) rfl ?_
    replace h := ob h; obtain ⟨z10, ez10, h⟩ := h
    exact hq_zret hx hb hr hlocks (bz_some ez10).2 h (Nat.le_of_ble_eq_true rfl) (Nat.le_of_ble_eq_true rfl) hW dPl_power_8
def fPl_isPlace (t0 : Nat) (t1 : Int32) (S : Ws) : Option (Int32 × Ws) :=
  if t1 < 0 then (bz (0 : Int32)).bind fun z1 => some ((0 : Int32), S) else (aN S t0 0).bind fun v2 => if v2 ≤ t1 then (bz (0 : Int32)).bind fun z3 => some ((0 : Int32), S) else (bz (1 : Int32)).bind fun z4 => some ((1 : Int32), S)
set_option maxRecDepth 100000 in
set_option maxHeartbeats 4000000 in
theorem kPl_isPlace (l : Launch) (D : va_G) (tc : Nat → ClassId) (b : Nat) (t0 : Nat) (t1 : Int32) (S Sz : Ws) (rr : Int32) (h : fPl_isPlace t0 t1 S = some (rr, Sz)) : Met l yPl_isPlace wsPl_isPlace { frames := 1, cells := 0, slots := 0, locals := 40 } (va_Pc [.ref t0, .int t1] (Wp D vwCl (hTy tc) b S)) (va_Qi (fun x (_ : Unit) => x = rr) (fun _ => Wp D vwCl (hTy tc) b Sz) (fun q => b ≤ q)) 0 0 (fun q => b ≤ q) := by
  refine hq_ofW (cc := cPl_isPlace) (maxL := 2) (ret := (some .boolean)) (by decide) rfl (Nat.le_of_ble_eq_true rfl) fun p e s m args below meth c hx hb hr hts hown hlocks hnm hml H locs ls hl hW => ?_
  have hts : ∀ w ∈ lwG, w.before args s = true := fun w h => hts w (List.mem_cons_of_mem _ h)
  have hown : s.vm.findClass "SerialPlant" = some m.cls := hown
  have hl : lv_has ls 2 [(0, .ref t0), (1, .int t1)] := hl
  unfold fPl_isPlace at h
  refine lv_iload_n hx hb dPl_isPlace_0 rfl (lv_at hl 1 rfl) ?_
  refine lv_if_lt hx hb dPl_isPlace_1 (tgt := 14) rfl (fun hc6 => ?_) (fun hc6 => ?_)
  · replace h := if_t hc6 h
    refine lv_iconst hx hb dPl_isPlace_14 (v := (0 : Int32)) rfl ?_
    replace h := ob h; obtain ⟨z1, ez1, h⟩ := h
    exact hq_zret hx hb hr hlocks (bz_some ez1).2 h (Nat.le_of_ble_eq_true rfl) (Nat.le_of_ble_eq_true rfl) hW dPl_isPlace_15
  · replace h := if_f hc6 h
    refine lv_iload_n hx hb dPl_isPlace_4 rfl (lv_at hl 1 rfl) ?_
    refine lv_aload_n hx hb dPl_isPlace_5 rfl (lv_at hl 0 rfl) ?_
    replace h := ob h; obtain ⟨v2, ev2, h⟩ := h
    refine hq_alen hx hb hW ev2 rfl dPl_isPlace_6 ?_
    refine lv_icmp_ge hx hb dPl_isPlace_7 (tgt := 14) rfl (fun hc5 => ?_) (fun hc5 => ?_)
    · replace h := if_t hc5 h
      refine lv_iconst hx hb dPl_isPlace_14 (v := (0 : Int32)) rfl ?_
      replace h := ob h; obtain ⟨z3, ez3, h⟩ := h
      exact hq_zret hx hb hr hlocks (bz_some ez3).2 h (Nat.le_of_ble_eq_true rfl) (Nat.le_of_ble_eq_true rfl) hW dPl_isPlace_15
    · replace h := if_f hc5 h
      refine lv_iconst hx hb dPl_isPlace_10 (v := (1 : Int32)) rfl ?_
      refine lv_goto hx hb dPl_isPlace_11 (tgt := 15) rfl ?_
      replace h := ob h; obtain ⟨z4, ez4, h⟩ := h
      exact hq_zret hx hb hr hlocks (bz_some ez4).2 h (Nat.le_of_ble_eq_true rfl) (Nat.le_of_ble_eq_true rfl) hW dPl_isPlace_15
def fPl_process_J19_1 (S1 : Ws) (t0 : Nat) (t1 : Int32) (t2 : Int32) (t3 : Int32) (t4 : Int32)  : Option (Int32 × Ws) :=
  (gR S1 t0 [7] 0).bind fun r4 => (r4).bind fun a5 => (aR S1 a5 3 (t1 - (1 : Int32))).bind fun r6 => (r6).bind fun a7 => (gO S1 a7 [5]).bind fun q10 => (fSl_tableOf a7 t2 S1).bind fun (r9, S8) => (if t2 = (2 : Int32) then some (1 : Int32) else some (65535 : Int32)).bind fun i11 => (r9).bind fun a14 => (fPl_isPlace a14 t3 S8).bind fun (v16, S15) => if v16 = 0 then (bz (0 : Int32)).bind fun z17 => some ((0 : Int32), S15) else (fPl_isWithin t4 i11 S15).bind fun (v19, S18) => if v19 = 0 then (bz (0 : Int32)).bind fun z22 => some ((0 : Int32), S18) else (sI S18 a14 0 t3 t4).bind fun S20 => (bz (1 : Int32)).bind fun z21 => some ((1 : Int32), S20)
def fPl_process (t0 : Nat) (t1 : Int32) (t2 : Int32) (t3 : Int32) (t4 : Int32) (S : Ws) : Option (Int32 × Ws) :=
  (fPl_isSlave t1 S).bind fun (v2, S1) => if v2 = 0 then (bz (0 : Int32)).bind fun z3 => some ((0 : Int32), S1) else if t2 = (2 : Int32) then fPl_process_J19_1 S1 t0 t1 t2 t3 t4 else if t2 = (4 : Int32) then fPl_process_J19_1 S1 t0 t1 t2 t3 t4 else (bz (0 : Int32)).bind fun z25 => some ((0 : Int32), S1)
set_option maxRecDepth 100000 in
set_option maxHeartbeats 4000000 in
theorem kPl_process (l : Launch) (D : va_G) (tc : Nat → ClassId) (b : Nat) (t0 : Nat) (t1 : Int32) (t2 : Int32) (t3 : Int32) (t4 : Int32) (S Sz : Ws) (rr : Int32) (h : fPl_process t0 t1 t2 t3 t4 S = some (rr, Sz)) : Met l yPl_process wsPl_process { frames := 2, cells := 0, slots := 0, locals := 80 } (va_Pc [.ref t0, .int t1, .int t2, .int t3, .int t4] (Wp D vwCl (hTy tc) b S)) (va_Qi (fun x (_ : Unit) => x = rr) (fun _ => Wp D vwCl (hTy tc) b Sz) (fun q => b ≤ q)) 0 0 (fun q => b ≤ q) := by
  refine hq_ofW (cc := cPl_process) (maxL := 7) (ret := (some .boolean)) (by decide) rfl (Nat.le_of_ble_eq_true rfl) fun p e s m args below meth c hx hb hr hts hown hlocks hnm hml H locs ls hl hW => ?_
  have hts : ∀ w ∈ lwG, w.before args s = true := fun w h => hts w (List.mem_cons_of_mem _ h)
  have hown : s.vm.findClass "SerialPlant" = some m.cls := hown
  have hl : lv_has ls 7 [(0, .ref t0), (1, .int t1), (2, .int t2), (3, .int t3), (4, .int t4)] := hl
  unfold fPl_process at h
  refine lv_iload_n hx hb dPl_process_0 rfl (lv_at hl 1 rfl) ?_
  replace h := ob h; obtain ⟨⟨v2, S1⟩, eS1, h⟩ := h
  refine hq_calli (ce := 0) (sl := 0) (va_runS (As := [.int t1]) (rest := []) ⟨hx, hb, hml, hown, hts⟩ (kPl_isSlave l D tc b t1 S _ _ eS1) (cwS 1 hts GS_Pl_44 rfl rfl rfl hd_Pl_isSlave_S_Pl ⟨Nat.le_of_ble_eq_true rfl, Nat.le_of_ble_eq_true rfl⟩) (hq_preS hW) rfl rfl hl.1 rfl (lv_room (by first | exact Nat.le_of_ble_eq_true rfl | (simp only [List.map, rf_cat]; exact Nat.le_of_ble_eq_true rfl))) dPl_process_1 ⟨Nat.le_of_ble_eq_true rfl, Nat.le_of_ble_eq_true rfl⟩) hW rfl rfl (fun H locs hW => ?_)
  refine lv_if_eq hx hb dPl_process_4 (tgt := 17) rfl (fun hc28 => ?_) (fun hc28 => ?_)
  · replace h := if_t hc28 h
    refine lv_iconst hx hb dPl_process_17 (v := (0 : Int32)) rfl ?_
    replace h := ob h; obtain ⟨z3, ez3, h⟩ := h
    exact hq_zret hx hb hr hlocks (bz_some ez3).2 h (Nat.le_of_ble_eq_true rfl) (Nat.le_of_ble_eq_true rfl) hW dPl_process_18
  · replace h := if_f hc28 h
    refine lv_iload_n hx hb dPl_process_7 rfl (lv_at hl 2 rfl) ?_
    refine lv_iconst hx hb dPl_process_8 (v := (2 : Int32)) rfl ?_
    have hP19_1 : ∀  (H : Heap) (locs : List Loc) (ls : Array Slot), lv_has ls 7 [(0, .ref t0), (1, .int t1), (2, .int t2), (3, .int t3), (4, .int t4)] → Wd D vwCl (hTy tc) b S1 s H locs → fPl_process_J19_1 S1 t0 t1 t2 t3 t4 = some (rr, Sz) → W p l e { frames := 2, cells := 0, slots := 0, locals := 80 } s m args below meth c H locs 0 0 (MQ below (va_Qi (fun x (_ : Unit) => x = rr) (fun _ => Wp D vwCl (hTy tc) b Sz) (fun q => b ≤ q)) args s 0 0 (fun q => b ≤ q)) (F0 m 19 ls []) := by
      intro  H locs ls hl hW h
      unfold fPl_process_J19_1 at h
      refine lv_aload_n hx hb dPl_process_19 rfl (lv_at hl 0 rfl) ?_
      replace h := ob h; obtain ⟨r4, er4, h⟩ := h
      refine hq_get hx hb hts hown hW (gR_V er4) (F_Pl_11 hts) dPl_process_20 ?_
      refine lv_iload_n hx hb dPl_process_23 rfl (lv_at hl 1 rfl) ?_
      refine lv_iconst hx hb dPl_process_24 (v := (1 : Int32)) rfl ?_
      refine lv_isub hx hb dPl_process_25 ?_
      replace h := ob h; obtain ⟨a5, hra5, h⟩ := h
      subst hra5
      replace h := ob h; obtain ⟨r6, er6, h⟩ := h
      refine hq_aald hx hb hW er6 rfl dPl_process_26 ?_
      refine lv_iload_n hx hb dPl_process_27 rfl (lv_at hl 2 rfl) ?_
      replace h := ob h; obtain ⟨a7, hra7, h⟩ := h
      subst hra7
      replace h := ob h; obtain ⟨q10, eq10, h⟩ := h
      replace h := ob h; obtain ⟨⟨r9, S8⟩, eS8, h⟩ := h
      refine hq_callq (ce := 0) (sl := 0) (va_runV (As := [.int t2]) (rest := []) ⟨hx, hb, hml, hown, hts⟩ (kSl_tableOf l D tc b a7 t2 S1 _ _ eS8) (cwV 1 hts GV_Pl_70_Sl rfl rfl rfl hd_Sl_tableOf_V ⟨Nat.le_of_ble_eq_true rfl, Nat.le_of_ble_eq_true rfl⟩) (hq_preV1 hW eq10 rfl rfl) rfl rfl hl.1 rfl (lv_room (by first | exact Nat.le_of_ble_eq_true rfl | (simp only [List.map, rf_cat]; exact Nat.le_of_ble_eq_true rfl))) dPl_process_28 ⟨Nat.le_of_ble_eq_true rfl, Nat.le_of_ble_eq_true rfl⟩) hW rfl rfl (fun H locs hW => ?_)
      refine hq_astore (x := r9) (lv' := [(5, va_rf r9), (0, .ref t0), (1, .int t1), (2, .int t2), (3, .int t3), (4, .int t4)]) hx hb dPl_process_31 hl (Nat.le_of_ble_eq_true rfl) (by first | rfl | (simp [List.filter, rf_cat] <;> rfl)) (fun ls hl => ?_)
      refine lv_iload_n hx hb dPl_process_33 rfl (lv_at hl 3 rfl) ?_
      refine lv_iconst hx hb dPl_process_34 (v := (2 : Int32)) rfl ?_
      replace h := ob h; obtain ⟨q12, e44, h⟩ := h
      have hJ44 : ∀ q', q' = q12 → ∀ (H : Heap) (locs : List Loc) (ls : Array Slot), lv_has ls 7 [(3, .int t3), (4, .int t4), (5, va_rf r9)] → Wd D vwCl (hTy tc) b S8 s H locs → W p l e { frames := 2, cells := 0, slots := 0, locals := 80 } s m args below meth c H locs 0 0 (MQ below (va_Qi (fun x (_ : Unit) => x = rr) (fun _ => Wp D vwCl (hTy tc) b Sz) (fun q => b ≤ q)) args s 0 0 (fun q => b ≤ q)) (F0 m 44 ls [.int q']) := by
        intro i11 hq'; subst hq'
        intro H locs ls hl hW
        refine lv_istore (lv' := [(6, .int i11), (3, .int t3), (4, .int t4), (5, va_rf r9)]) hx hb dPl_process_44 hl (Nat.le_of_ble_eq_true rfl) (by first | rfl | (simp [List.filter, rf_cat] <;> rfl)) (fun ls hl => ?_)
        refine hq_aload (x := r9) hx hb dPl_process_46 (lv_at hl 3 rfl) ?_
        refine lv_iload_n hx hb dPl_process_48 rfl (lv_at hl 1 rfl) ?_
        replace h := ob h; obtain ⟨a14, hra14, h⟩ := h
        subst hra14
        replace h := ob h; obtain ⟨⟨v16, S15⟩, eS15, h⟩ := h
        refine hq_calli (ce := 0) (sl := 0) (va_runS (As := [.ref a14, .int t3]) (rest := []) ⟨hx, hb, hml, hown, hts⟩ (kPl_isPlace l D tc b a14 t3 S8 _ _ eS15) (cwS 2 hts GS_Pl_75 rfl rfl rfl hd_Pl_isPlace_S_Pl ⟨Nat.le_of_ble_eq_true rfl, Nat.le_of_ble_eq_true rfl⟩) (hq_preS hW) rfl rfl hl.1 rfl (lv_room (by first | exact Nat.le_of_ble_eq_true rfl | (simp only [List.map, rf_cat]; exact Nat.le_of_ble_eq_true rfl))) dPl_process_49 ⟨Nat.le_of_ble_eq_true rfl, Nat.le_of_ble_eq_true rfl⟩) hW rfl rfl (fun H locs hW => ?_)
        refine lv_if_eq hx hb dPl_process_52 (tgt := 65) rfl (fun hc24 => ?_) (fun hc24 => ?_)
        · replace h := if_t hc24 h
          refine lv_iconst hx hb dPl_process_65 (v := (0 : Int32)) rfl ?_
          replace h := ob h; obtain ⟨z17, ez17, h⟩ := h
          exact hq_zret hx hb hr hlocks (bz_some ez17).2 h (Nat.le_of_ble_eq_true rfl) (Nat.le_of_ble_eq_true rfl) hW dPl_process_66
        · replace h := if_f hc24 h
          refine lv_iload hx hb dPl_process_55 (lv_at hl 2 rfl) ?_
          refine lv_iload hx hb dPl_process_57 (lv_at hl 0 rfl) ?_
          replace h := ob h; obtain ⟨⟨v19, S18⟩, eS18, h⟩ := h
          refine hq_calli (ce := 0) (sl := 0) (va_runS (As := [.int t4, .int i11]) (rest := []) ⟨hx, hb, hml, hown, hts⟩ (kPl_isWithin l D tc b t4 i11 S15 _ _ eS18) (cwS 2 hts GS_Pl_51 rfl rfl rfl hd_Pl_isWithin_S_Pl ⟨Nat.le_of_ble_eq_true rfl, Nat.le_of_ble_eq_true rfl⟩) (hq_preS hW) rfl rfl hl.1 rfl (lv_room (by first | exact Nat.le_of_ble_eq_true rfl | (simp only [List.map, rf_cat]; exact Nat.le_of_ble_eq_true rfl))) dPl_process_59 ⟨Nat.le_of_ble_eq_true rfl, Nat.le_of_ble_eq_true rfl⟩) hW rfl rfl (fun H locs hW => ?_)
          refine lv_if_ne hx hb dPl_process_62 (tgt := 67) rfl (fun hc23 => ?_) (fun hc23 => ?_)
          · replace h := if_f hc23 h
            refine lv_aload hx hb dPl_process_67 (lv_at hl 3 rfl) ?_
            refine lv_iload_n hx hb dPl_process_69 rfl (lv_at hl 1 rfl) ?_
            refine lv_iload hx hb dPl_process_70 (lv_at hl 2 rfl) ?_
            replace h := ob h; obtain ⟨S20, eS20, h⟩ := h
            refine hq_iast hx hb hW eS20 rfl dPl_process_72 (fun H locs hW => ?_)
            refine lv_iconst hx hb dPl_process_73 (v := (1 : Int32)) rfl ?_
            replace h := ob h; obtain ⟨z21, ez21, h⟩ := h
            exact hq_zret hx hb hr hlocks (bz_some ez21).2 h (Nat.le_of_ble_eq_true rfl) (Nat.le_of_ble_eq_true rfl) hW dPl_process_74
          · replace h := if_t hc23 h
            refine lv_iconst hx hb dPl_process_65 (v := (0 : Int32)) rfl ?_
            replace h := ob h; obtain ⟨z22, ez22, h⟩ := h
            exact hq_zret hx hb hr hlocks (bz_some ez22).2 h (Nat.le_of_ble_eq_true rfl) (Nat.le_of_ble_eq_true rfl) hW dPl_process_66
      clear h; have h := e44; clear e44
      refine lv_icmp_ne hx hb dPl_process_35 (tgt := 42) rfl (fun hc13 => ?_) (fun hc13 => ?_)
      · replace h := if_f hc13 h
        refine lv_ldc hx hb (v := (65535 : Int32)) hown (hts _ w_212) dPl_process_42 ?_
        exact hJ44 _ (Option.some.inj h) _ _ _ (lv_sub hl [4, 5, 0] rfl) hW
      · replace h := if_t hc13 h
        refine lv_iconst hx hb dPl_process_38 (v := (1 : Int32)) rfl ?_
        refine lv_goto hx hb dPl_process_39 (tgt := 44) rfl ?_
        exact hJ44 _ (Option.some.inj h) _ _ _ (lv_sub hl [4, 5, 0] rfl) hW
    refine lv_icmp_eq hx hb dPl_process_9 (tgt := 19) rfl (fun hc27 => ?_) (fun hc27 => ?_)
    · replace h := if_t hc27 h
      exact hP19_1  _ _ _ (lv_sub hl [0, 1, 2, 3, 4] rfl) hW h
    · replace h := if_f hc27 h
      refine lv_iload_n hx hb dPl_process_12 rfl (lv_at hl 2 rfl) ?_
      refine lv_iconst hx hb dPl_process_13 (v := (4 : Int32)) rfl ?_
      refine lv_icmp_eq hx hb dPl_process_14 (tgt := 19) rfl (fun hc26 => ?_) (fun hc26 => ?_)
      · replace h := if_t hc26 h
        exact hP19_1  _ _ _ (lv_sub hl [0, 1, 2, 3, 4] rfl) hW h
      · replace h := if_f hc26 h
        refine lv_iconst hx hb dPl_process_17 (v := (0 : Int32)) rfl ?_
        replace h := ob h; obtain ⟨z25, ez25, h⟩ := h
        exact hq_zret hx hb hr hlocks (bz_some ez25).2 h (Nat.le_of_ble_eq_true rfl) (Nat.le_of_ble_eq_true rfl) hW dPl_process_18
def fPl_cell (t0 : Nat) (t1 : Int32) (t2 : Int32) (t3 : Int32) (S : Ws) : Option (Int32 × Ws) :=
  (fPl_isSlave t1 S).bind fun (v2, S1) => if v2 = 0 then some ((-1 : Int32), S1) else if t2 < (1 : Int32) then some ((-1 : Int32), S1) else if t2 ≤ (4 : Int32) then (gR S1 t0 [7] 0).bind fun r3 => (r3).bind fun a4 => (aR S1 a4 3 (t1 - (1 : Int32))).bind fun r5 => (r5).bind fun a6 => (gO S1 a6 [5]).bind fun q9 => (fSl_tableOf a6 t2 S1).bind fun (r8, S7) => (r8).bind fun a10 => (fPl_isPlace a10 t3 S7).bind fun (v12, S11) => if v12 = 0 then some ((-1 : Int32), S11) else (aI S11 a10 0 t3).bind fun v13 => some (v13, S11) else some ((-1 : Int32), S1)
set_option maxRecDepth 100000 in
set_option maxHeartbeats 4000000 in
theorem kPl_cell (l : Launch) (D : va_G) (tc : Nat → ClassId) (b : Nat) (t0 : Nat) (t1 : Int32) (t2 : Int32) (t3 : Int32) (S Sz : Ws) (rr : Int32) (h : fPl_cell t0 t1 t2 t3 S = some (rr, Sz)) : Met l yPl_cell wsPl_cell { frames := 2, cells := 0, slots := 0, locals := 80 } (va_Pc [.ref t0, .int t1, .int t2, .int t3] (Wp D vwCl (hTy tc) b S)) (va_Qi (fun x (_ : Unit) => x = rr) (fun _ => Wp D vwCl (hTy tc) b Sz) (fun q => b ≤ q)) 0 0 (fun q => b ≤ q) := by
  refine hq_ofW (cc := cPl_cell) (maxL := 5) (ret := (some .int)) (by decide) rfl (Nat.le_of_ble_eq_true rfl) fun p e s m args below meth c hx hb hr hts hown hlocks hnm hml H locs ls hl hW => ?_
  have hts : ∀ w ∈ lwG, w.before args s = true := fun w h => hts w (List.mem_cons_of_mem _ h)
  have hown : s.vm.findClass "SerialPlant" = some m.cls := hown
  have hl : lv_has ls 5 [(0, .ref t0), (1, .int t1), (2, .int t2), (3, .int t3)] := hl
  unfold fPl_cell at h
  refine lv_iload_n hx hb dPl_cell_0 rfl (lv_at hl 1 rfl) ?_
  replace h := ob h; obtain ⟨⟨v2, S1⟩, eS1, h⟩ := h
  refine hq_calli (ce := 0) (sl := 0) (va_runS (As := [.int t1]) (rest := []) ⟨hx, hb, hml, hown, hts⟩ (kPl_isSlave l D tc b t1 S _ _ eS1) (cwS 1 hts GS_Pl_44 rfl rfl rfl hd_Pl_isSlave_S_Pl ⟨Nat.le_of_ble_eq_true rfl, Nat.le_of_ble_eq_true rfl⟩) (hq_preS hW) rfl rfl hl.1 rfl (lv_room (by first | exact Nat.le_of_ble_eq_true rfl | (simp only [List.map, rf_cat]; exact Nat.le_of_ble_eq_true rfl))) dPl_cell_1 ⟨Nat.le_of_ble_eq_true rfl, Nat.le_of_ble_eq_true rfl⟩) hW rfl rfl (fun H locs hW => ?_)
  refine lv_if_eq hx hb dPl_cell_4 (tgt := 17) rfl (fun hc17 => ?_) (fun hc17 => ?_)
  · replace h := if_t hc17 h
    refine lv_iconst hx hb dPl_cell_17 (v := (-1 : Int32)) rfl ?_
    exact hq_iret hx hb hr hlocks h (Nat.le_of_ble_eq_true rfl) (Nat.le_of_ble_eq_true rfl) hW dPl_cell_18
  · replace h := if_f hc17 h
    refine lv_iload_n hx hb dPl_cell_7 rfl (lv_at hl 2 rfl) ?_
    refine lv_iconst hx hb dPl_cell_8 (v := (1 : Int32)) rfl ?_
    refine lv_icmp_lt hx hb dPl_cell_9 (tgt := 17) rfl (fun hc16 => ?_) (fun hc16 => ?_)
    · replace h := if_t hc16 h
      refine lv_iconst hx hb dPl_cell_17 (v := (-1 : Int32)) rfl ?_
      exact hq_iret hx hb hr hlocks h (Nat.le_of_ble_eq_true rfl) (Nat.le_of_ble_eq_true rfl) hW dPl_cell_18
    · replace h := if_f hc16 h
      refine lv_iload_n hx hb dPl_cell_12 rfl (lv_at hl 2 rfl) ?_
      refine lv_iconst hx hb dPl_cell_13 (v := (4 : Int32)) rfl ?_
      refine lv_icmp_le hx hb dPl_cell_14 (tgt := 19) rfl (fun hc15 => ?_) (fun hc15 => ?_)
      · replace h := if_t hc15 h
        refine lv_aload_n hx hb dPl_cell_19 rfl (lv_at hl 0 rfl) ?_
        replace h := ob h; obtain ⟨r3, er3, h⟩ := h
        refine hq_get hx hb hts hown hW (gR_V er3) (F_Pl_11 hts) dPl_cell_20 ?_
        refine lv_iload_n hx hb dPl_cell_23 rfl (lv_at hl 1 rfl) ?_
        refine lv_iconst hx hb dPl_cell_24 (v := (1 : Int32)) rfl ?_
        refine lv_isub hx hb dPl_cell_25 ?_
        replace h := ob h; obtain ⟨a4, hra4, h⟩ := h
        subst hra4
        replace h := ob h; obtain ⟨r5, er5, h⟩ := h
        refine hq_aald hx hb hW er5 rfl dPl_cell_26 ?_
        refine lv_iload_n hx hb dPl_cell_27 rfl (lv_at hl 2 rfl) ?_
        replace h := ob h; obtain ⟨a6, hra6, h⟩ := h
        subst hra6
        replace h := ob h; obtain ⟨q9, eq9, h⟩ := h
        replace h := ob h; obtain ⟨⟨r8, S7⟩, eS7, h⟩ := h
        refine hq_callq (ce := 0) (sl := 0) (va_runV (As := [.int t2]) (rest := []) ⟨hx, hb, hml, hown, hts⟩ (kSl_tableOf l D tc b a6 t2 S1 _ _ eS7) (cwV 1 hts GV_Pl_70_Sl rfl rfl rfl hd_Sl_tableOf_V ⟨Nat.le_of_ble_eq_true rfl, Nat.le_of_ble_eq_true rfl⟩) (hq_preV1 hW eq9 rfl rfl) rfl rfl hl.1 rfl (lv_room (by first | exact Nat.le_of_ble_eq_true rfl | (simp only [List.map, rf_cat]; exact Nat.le_of_ble_eq_true rfl))) dPl_cell_28 ⟨Nat.le_of_ble_eq_true rfl, Nat.le_of_ble_eq_true rfl⟩) hW rfl rfl (fun H locs hW => ?_)
        refine hq_astore (x := r8) (lv' := [(4, va_rf r8), (0, .ref t0), (1, .int t1), (2, .int t2), (3, .int t3)]) hx hb dPl_cell_31 hl (Nat.le_of_ble_eq_true rfl) (by first | rfl | (simp [List.filter, rf_cat] <;> rfl)) (fun ls hl => ?_)
        refine hq_aload (x := r8) hx hb dPl_cell_33 (lv_at hl 0 rfl) ?_
        refine lv_iload_n hx hb dPl_cell_35 rfl (lv_at hl 4 rfl) ?_
        replace h := ob h; obtain ⟨a10, hra10, h⟩ := h
        subst hra10
        replace h := ob h; obtain ⟨⟨v12, S11⟩, eS11, h⟩ := h
        refine hq_calli (ce := 0) (sl := 0) (va_runS (As := [.ref a10, .int t3]) (rest := []) ⟨hx, hb, hml, hown, hts⟩ (kPl_isPlace l D tc b a10 t3 S7 _ _ eS11) (cwS 2 hts GS_Pl_75 rfl rfl rfl hd_Pl_isPlace_S_Pl ⟨Nat.le_of_ble_eq_true rfl, Nat.le_of_ble_eq_true rfl⟩) (hq_preS hW) rfl rfl hl.1 rfl (lv_room (by first | exact Nat.le_of_ble_eq_true rfl | (simp only [List.map, rf_cat]; exact Nat.le_of_ble_eq_true rfl))) dPl_cell_36 ⟨Nat.le_of_ble_eq_true rfl, Nat.le_of_ble_eq_true rfl⟩) hW rfl rfl (fun H locs hW => ?_)
        refine lv_if_eq hx hb dPl_cell_39 (tgt := 49) rfl (fun hc14 => ?_) (fun hc14 => ?_)
        · replace h := if_t hc14 h
          refine lv_iconst hx hb dPl_cell_49 (v := (-1 : Int32)) rfl ?_
          exact hq_iret hx hb hr hlocks h (Nat.le_of_ble_eq_true rfl) (Nat.le_of_ble_eq_true rfl) hW dPl_cell_50
        · replace h := if_f hc14 h
          refine lv_aload hx hb dPl_cell_42 (lv_at hl 0 rfl) ?_
          refine lv_iload_n hx hb dPl_cell_44 rfl (lv_at hl 4 rfl) ?_
          replace h := ob h; obtain ⟨v13, ev13, h⟩ := h
          refine hq_iald hx hb hW ev13 rfl dPl_cell_45 ?_
          refine lv_goto hx hb dPl_cell_46 (tgt := 50) rfl ?_
          exact hq_iret hx hb hr hlocks h (Nat.le_of_ble_eq_true rfl) (Nat.le_of_ble_eq_true rfl) hW dPl_cell_50
      · replace h := if_f hc15 h
        refine lv_iconst hx hb dPl_cell_17 (v := (-1 : Int32)) rfl ?_
        exact hq_iret hx hb hr hlocks h (Nat.le_of_ble_eq_true rfl) (Nat.le_of_ble_eq_true rfl) hW dPl_cell_18
def fPl_isAttachedSlave (t0 : Nat) (t1 : Int32) (S : Ws) : Option (Int32 × Ws) :=
  (fPl_isSlave t1 S).bind fun (v2, S1) => if v2 = 0 then (bz (0 : Int32)).bind fun z3 => some ((0 : Int32), S1) else (gR S1 t0 [7] 0).bind fun r4 => (r4).bind fun a5 => (aR S1 a5 3 (t1 - (1 : Int32))).bind fun r6 => (r6).bind fun a7 => (gO S1 a7 [5]).bind fun q10 => (fSl_isAttached a7 S1).bind fun (v9, S8) => if v9 = 0 then (bz (0 : Int32)).bind fun z11 => some ((0 : Int32), S8) else (bz (1 : Int32)).bind fun z12 => some ((1 : Int32), S8)
set_option maxRecDepth 100000 in
set_option maxHeartbeats 4000000 in
theorem kPl_isAttachedSlave (l : Launch) (D : va_G) (tc : Nat → ClassId) (b : Nat) (t0 : Nat) (t1 : Int32) (S Sz : Ws) (rr : Int32) (h : fPl_isAttachedSlave t0 t1 S = some (rr, Sz)) : Met l yPl_isAttachedSlave wsPl_isAttachedSlave { frames := 2, cells := 0, slots := 0, locals := 80 } (va_Pc [.ref t0, .int t1] (Wp D vwCl (hTy tc) b S)) (va_Qi (fun x (_ : Unit) => x = rr) (fun _ => Wp D vwCl (hTy tc) b Sz) (fun q => b ≤ q)) 0 0 (fun q => b ≤ q) := by
  refine hq_ofW (cc := cPl_isAttachedSlave) (maxL := 2) (ret := (some .boolean)) (by decide) rfl (Nat.le_of_ble_eq_true rfl) fun p e s m args below meth c hx hb hr hts hown hlocks hnm hml H locs ls hl hW => ?_
  have hts : ∀ w ∈ lwG, w.before args s = true := fun w h => hts w (List.mem_cons_of_mem _ h)
  have hown : s.vm.findClass "SerialPlant" = some m.cls := hown
  have hl : lv_has ls 2 [(0, .ref t0), (1, .int t1)] := hl
  unfold fPl_isAttachedSlave at h
  refine lv_iload_n hx hb dPl_isAttachedSlave_0 rfl (lv_at hl 1 rfl) ?_
  replace h := ob h; obtain ⟨⟨v2, S1⟩, eS1, h⟩ := h
  refine hq_calli (ce := 0) (sl := 0) (va_runS (As := [.int t1]) (rest := []) ⟨hx, hb, hml, hown, hts⟩ (kPl_isSlave l D tc b t1 S _ _ eS1) (cwS 1 hts GS_Pl_44 rfl rfl rfl hd_Pl_isSlave_S_Pl ⟨Nat.le_of_ble_eq_true rfl, Nat.le_of_ble_eq_true rfl⟩) (hq_preS hW) rfl rfl hl.1 rfl (lv_room (by first | exact Nat.le_of_ble_eq_true rfl | (simp only [List.map, rf_cat]; exact Nat.le_of_ble_eq_true rfl))) dPl_isAttachedSlave_1 ⟨Nat.le_of_ble_eq_true rfl, Nat.le_of_ble_eq_true rfl⟩) hW rfl rfl (fun H locs hW => ?_)
  refine lv_if_eq hx hb dPl_isAttachedSlave_4 (tgt := 25) rfl (fun hc14 => ?_) (fun hc14 => ?_)
  · replace h := if_t hc14 h
    refine lv_iconst hx hb dPl_isAttachedSlave_25 (v := (0 : Int32)) rfl ?_
    replace h := ob h; obtain ⟨z3, ez3, h⟩ := h
    exact hq_zret hx hb hr hlocks (bz_some ez3).2 h (Nat.le_of_ble_eq_true rfl) (Nat.le_of_ble_eq_true rfl) hW dPl_isAttachedSlave_26
  · replace h := if_f hc14 h
    refine lv_aload_n hx hb dPl_isAttachedSlave_7 rfl (lv_at hl 0 rfl) ?_
    replace h := ob h; obtain ⟨r4, er4, h⟩ := h
    refine hq_get hx hb hts hown hW (gR_V er4) (F_Pl_11 hts) dPl_isAttachedSlave_8 ?_
    refine lv_iload_n hx hb dPl_isAttachedSlave_11 rfl (lv_at hl 1 rfl) ?_
    refine lv_iconst hx hb dPl_isAttachedSlave_12 (v := (1 : Int32)) rfl ?_
    refine lv_isub hx hb dPl_isAttachedSlave_13 ?_
    replace h := ob h; obtain ⟨a5, hra5, h⟩ := h
    subst hra5
    replace h := ob h; obtain ⟨r6, er6, h⟩ := h
    refine hq_aald hx hb hW er6 rfl dPl_isAttachedSlave_14 ?_
    replace h := ob h; obtain ⟨a7, hra7, h⟩ := h
    subst hra7
    replace h := ob h; obtain ⟨q10, eq10, h⟩ := h
    replace h := ob h; obtain ⟨⟨v9, S8⟩, eS8, h⟩ := h
    refine hq_calli (ce := 0) (sl := 0) (va_runV (As := []) (rest := []) ⟨hx, hb, hml, hown, hts⟩ (kSl_isAttached l D tc b a7 S1 _ _ eS8) (cwV 0 hts GV_Pl_55_Sl rfl rfl rfl hd_Sl_isAttached_V ⟨Nat.le_of_ble_eq_true rfl, Nat.le_of_ble_eq_true rfl⟩) (hq_preV1 hW eq10 rfl rfl) rfl rfl hl.1 rfl (lv_room (by first | exact Nat.le_of_ble_eq_true rfl | (simp only [List.map, rf_cat]; exact Nat.le_of_ble_eq_true rfl))) dPl_isAttachedSlave_15 ⟨Nat.le_of_ble_eq_true rfl, Nat.le_of_ble_eq_true rfl⟩) hW rfl rfl (fun H locs hW => ?_)
    refine lv_if_eq hx hb dPl_isAttachedSlave_18 (tgt := 25) rfl (fun hc13 => ?_) (fun hc13 => ?_)
    · replace h := if_t hc13 h
      refine lv_iconst hx hb dPl_isAttachedSlave_25 (v := (0 : Int32)) rfl ?_
      replace h := ob h; obtain ⟨z11, ez11, h⟩ := h
      exact hq_zret hx hb hr hlocks (bz_some ez11).2 h (Nat.le_of_ble_eq_true rfl) (Nat.le_of_ble_eq_true rfl) hW dPl_isAttachedSlave_26
    · replace h := if_f hc13 h
      refine lv_iconst hx hb dPl_isAttachedSlave_21 (v := (1 : Int32)) rfl ?_
      refine lv_goto hx hb dPl_isAttachedSlave_22 (tgt := 26) rfl ?_
      replace h := ob h; obtain ⟨z12, ez12, h⟩ := h
      exact hq_zret hx hb hr hlocks (bz_some ez12).2 h (Nat.le_of_ble_eq_true rfl) (Nat.le_of_ble_eq_true rfl) hW dPl_isAttachedSlave_26
def fPl_point_J28_1 (t3 : Int32) (S1 : Ws) (t0 : Nat) (t1 : Int32) (t2 : Int32)  : Option (Int32 × Ws) :=
  (fPl_isWithin t3 (7 : Int32) S1).bind fun (v6, S5) => if v6 = 0 then some ((-1 : Int32), S5) else (gI S5 t0 [7] 6).bind fun v7 => (gR S5 t0 [7] 3).bind fun r8 => (gR (S5.add (.inr (3, [.int 0, .int 0, .int 0, .int 0, .int 0, .long 0, .int 0, .null]))) t0 [7] 4).bind fun r9 => (r9).bind fun a10 => (fPo_init S5.1 v7 t1 t2 t3 a10 (S5.add (.inr (3, [.int 0, .int 0, .int 0, .int 0, .int 0, .long 0, .int 0, .null])))).bind fun S11 => (r8).bind fun a12 => (ck S11 (some S5.1) [3]).bind fun z14 => (sR S11 a12 6 v7 (some S5.1)).bind fun S13 => (gI S13 t0 [7] 6).bind fun v15 => (pV S13 t0 [7] 6 (.int (v15 + (1 : Int32)))).bind fun S16 => some (v7, S16)
def fPl_point (t0 : Nat) (t1 : Int32) (t2 : Int32) (t3 : Int32) (S : Ws) : Option (Int32 × Ws) :=
  (gO S t0 [7]).bind fun q3 => (fPl_isAttachedSlave t0 t1 S).bind fun (v2, S1) => if v2 = 0 then some ((-1 : Int32), S1) else (gI S1 t0 [7] 6).bind fun v4 => if v4 < (4 : Int32) then if t2 = (3 : Int32) then fPl_point_J28_1 t3 S1 t0 t1 t2 else if t2 = (4 : Int32) then fPl_point_J28_1 t3 S1 t0 t1 t2 else some ((-1 : Int32), S1) else some ((-1 : Int32), S1)
set_option maxRecDepth 100000 in
set_option maxHeartbeats 4000000 in
theorem kPl_point (l : Launch) (D : va_G) (tc : Nat → ClassId) (b : Nat) (t0 : Nat) (t1 : Int32) (t2 : Int32) (t3 : Int32) (S Sz : Ws) (rr : Int32) (h : fPl_point t0 t1 t2 t3 S = some (rr, Sz)) : Met l yPl_point wsPl_point { frames := 3, cells := 1, slots := 8, locals := 120 } (va_Pc [.ref t0, .int t1, .int t2, .int t3] (Wp D vwCl (hTy tc) b S)) (va_Qi (fun x (_ : Unit) => x = rr) (fun _ => Wp D vwCl (hTy tc) b Sz) (fun q => b ≤ q)) 1 8 (fun q => b ≤ q) := by
  refine hq_ofW (cc := cPl_point) (maxL := 5) (ret := (some .int)) (by decide) rfl (Nat.le_of_ble_eq_true rfl) fun p e s m args below meth c hx hb hr hts hown hlocks hnm hml H locs ls hl hW => ?_
  have hts : ∀ w ∈ lwG, w.before args s = true := fun w h => hts w (List.mem_cons_of_mem _ h)
  have hown : s.vm.findClass "SerialPlant" = some m.cls := hown
  have hl : lv_has ls 5 [(0, .ref t0), (1, .int t1), (2, .int t2), (3, .int t3)] := hl
  unfold fPl_point at h
  refine lv_aload_n hx hb dPl_point_0 rfl (lv_at hl 0 rfl) ?_
  refine lv_iload_n hx hb dPl_point_1 rfl (lv_at hl 1 rfl) ?_
  replace h := ob h; obtain ⟨q3, eq3, h⟩ := h
  replace h := ob h; obtain ⟨⟨v2, S1⟩, eS1, h⟩ := h
  refine hq_calli (ce := 0) (sl := 0) (va_runV (As := [.int t1]) (rest := []) ⟨hx, hb, hml, hown, hts⟩ (kPl_isAttachedSlave l D tc b t0 t1 S _ _ eS1) (cwV 1 hts GV_Pl_79_Pl rfl rfl rfl hd_Pl_isAttachedSlave_V ⟨Nat.le_of_ble_eq_true rfl, Nat.le_of_ble_eq_true rfl⟩) (hq_preV1 hW eq3 rfl rfl) rfl rfl hl.1 rfl (lv_room (by first | exact Nat.le_of_ble_eq_true rfl | (simp only [List.map, rf_cat]; exact Nat.le_of_ble_eq_true rfl))) dPl_point_2 ⟨Nat.le_of_ble_eq_true rfl, Nat.le_of_ble_eq_true rfl⟩) hW rfl rfl (fun H locs hW => ?_)
  refine lv_if_eq hx hb dPl_point_5 (tgt := 16) rfl (fun hc21 => ?_) (fun hc21 => ?_)
  · replace h := if_t hc21 h
    refine lv_iconst hx hb dPl_point_16 (v := (-1 : Int32)) rfl ?_
    exact hq_iret hx hb hr hlocks h (Nat.le_of_ble_eq_true rfl) (Nat.le_of_ble_eq_true rfl) hW dPl_point_17
  · replace h := if_f hc21 h
    refine lv_aload_n hx hb dPl_point_8 rfl (lv_at hl 0 rfl) ?_
    replace h := ob h; obtain ⟨v4, ev4, h⟩ := h
    refine hq_get hx hb hts hown hW (gI_V ev4) (F_Pl_82 hts) dPl_point_9 ?_
    refine lv_iconst hx hb dPl_point_12 (v := (4 : Int32)) rfl ?_
    refine lv_icmp_lt hx hb dPl_point_13 (tgt := 18) rfl (fun hc20 => ?_) (fun hc20 => ?_)
    · replace h := if_t hc20 h
      refine lv_iload_n hx hb dPl_point_18 rfl (lv_at hl 2 rfl) ?_
      refine lv_iconst hx hb dPl_point_19 (v := (3 : Int32)) rfl ?_
      have hP28_1 : ∀  (H : Heap) (locs : List Loc) (ls : Array Slot), lv_has ls 5 [(0, .ref t0), (1, .int t1), (2, .int t2), (3, .int t3)] → Wd D vwCl (hTy tc) b S1 s H locs → fPl_point_J28_1 t3 S1 t0 t1 t2 = some (rr, Sz) → W p l e { frames := 3, cells := 1, slots := 8, locals := 120 } s m args below meth c H locs 0 0 (MQ below (va_Qi (fun x (_ : Unit) => x = rr) (fun _ => Wp D vwCl (hTy tc) b Sz) (fun q => b ≤ q)) args s 1 8 (fun q => b ≤ q)) (F0 m 28 ls []) := by
        intro  H locs ls hl hW h
        unfold fPl_point_J28_1 at h
        refine lv_iload_n hx hb dPl_point_28 rfl (lv_at hl 3 rfl) ?_
        refine lv_bipush hx hb dPl_point_29 (v := (7 : Int32)) rfl ?_
        replace h := ob h; obtain ⟨⟨v6, S5⟩, eS5, h⟩ := h
        refine hq_calli (ce := 0) (sl := 0) (va_runS (As := [.int t3, .int (7 : Int32)]) (rest := []) ⟨hx, hb, hml, hown, hts⟩ (kPl_isWithin l D tc b t3 (7 : Int32) S1 _ _ eS5) (cwS 2 hts GS_Pl_51 rfl rfl rfl hd_Pl_isWithin_S_Pl ⟨Nat.le_of_ble_eq_true rfl, Nat.le_of_ble_eq_true rfl⟩) (hq_preS hW) rfl rfl hl.1 rfl (lv_room (by first | exact Nat.le_of_ble_eq_true rfl | (simp only [List.map, rf_cat]; exact Nat.le_of_ble_eq_true rfl))) dPl_point_31 ⟨Nat.le_of_ble_eq_true rfl, Nat.le_of_ble_eq_true rfl⟩) hW rfl rfl (fun H locs hW => ?_)
        refine lv_if_ne hx hb dPl_point_34 (tgt := 39) rfl (fun hc17 => ?_) (fun hc17 => ?_)
        · replace h := if_f hc17 h
          refine lv_aload_n hx hb dPl_point_39 rfl (lv_at hl 0 rfl) ?_
          replace h := ob h; obtain ⟨v7, ev7, h⟩ := h
          refine hq_get hx hb hts hown hW (gI_V ev7) (F_Pl_82 hts) dPl_point_40 ?_
          refine lv_istore (lv' := [(4, .int v7), (0, .ref t0), (1, .int t1), (2, .int t2), (3, .int t3)]) hx hb dPl_point_43 hl (Nat.le_of_ble_eq_true rfl) (by first | rfl | (simp [List.filter, rf_cat] <;> rfl)) (fun ls hl => ?_)
          refine lv_aload_n hx hb dPl_point_45 rfl (lv_at hl 1 rfl) ?_
          replace h := ob h; obtain ⟨r8, er8, h⟩ := h
          refine hq_get hx hb hts hown hW (gR_V er8) (F_Pl_33 hts) dPl_point_46 ?_
          refine lv_iload hx hb dPl_point_49 (lv_at hl 0 rfl) ?_
          refine hq_new (ci := 3) (fs := [.int 0, .int 0, .int 0, .int 0, .int 0, .long 0, .int 0, .null]) (C := "SerialPlant$Poll") (T := TPo) (N := 8) (ce := 1) (sl := 8) hx hb hts inPo tyPo tyPo_ok hown (hts _ w_131) (hts _ w_228) (hts _ w_9) hW rfl dfPo rfl rfl (Nat.le_of_ble_eq_true rfl) (Nat.le_of_ble_eq_true rfl) dPl_point_51 (fun H hW => ?_)
          refine lv_dup hx hb dPl_point_54 rfl ?_
          refine lv_iload hx hb dPl_point_55 (lv_at hl 0 rfl) ?_
          refine lv_iload_n hx hb dPl_point_57 rfl (lv_at hl 2 rfl) ?_
          refine lv_iload_n hx hb dPl_point_58 rfl (lv_at hl 3 rfl) ?_
          refine lv_iload_n hx hb dPl_point_59 rfl (lv_at hl 4 rfl) ?_
          refine lv_aload_n hx hb dPl_point_60 rfl (lv_at hl 1 rfl) ?_
          replace h := ob h; obtain ⟨r9, er9, h⟩ := h
          refine hq_get hx hb hts hown hW (gR_V er9) (F_Pl_40 hts) dPl_point_61 ?_
          replace h := ob h; obtain ⟨a10, hra10, h⟩ := h
          subst hra10
          replace h := ob h; obtain ⟨S11, eS11, h⟩ := h
          refine hq_callv (ce := 1) (sl := 8) (va_runI (As := [.int v7, .int t1, .int t2, .int t3, .ref a10]) (rest := [.ref S5.1, .int v7, va_rf r8]) ⟨hx, hb, hml, hown, hts⟩ (kPo_init l D tc b S5.1 v7 t1 t2 t3 a10 (S5.add (.inr (3, [.int 0, .int 0, .int 0, .int 0, .int 0, .long 0, .int 0, .null]))) _ eS11) (cwI 5 hts G0_Po_init rfl rfl rfl (hts _ w_9) (hts _ w_229) (hts _ w_230) rfl hd_Po_init_I ⟨Nat.le_of_ble_eq_true rfl, Nat.le_of_ble_eq_true rfl⟩) (hq_preS hW) rfl rfl hl.1 rfl (lv_room (by first | exact Nat.le_of_ble_eq_true rfl | (simp only [List.map, rf_cat]; exact Nat.le_of_ble_eq_true rfl))) dPl_point_64 ⟨Nat.le_of_ble_eq_true rfl, Nat.le_of_ble_eq_true rfl⟩) hW rfl rfl (fun H locs hW => ?_)
          replace h := ob h; obtain ⟨a12, hra12, h⟩ := h
          subst hra12
          replace h := ob h; obtain ⟨z14, ez14, h⟩ := h
          replace h := ob h; obtain ⟨S13, eS13, h⟩ := h
          refine hq_aast (x := (some S5.1)) hx hb hW ez14 eS13 rfl (fk1 ⟨_, rfl, Or.inl rfl⟩) dPl_point_67 (fun H locs hW => ?_)
          refine lv_aload_n hx hb dPl_point_68 rfl (lv_at hl 1 rfl) ?_
          refine lv_dup hx hb dPl_point_69 rfl ?_
          replace h := ob h; obtain ⟨v15, ev15, h⟩ := h
          refine hq_get hx hb hts hown hW (gI_V ev15) (F_Pl_82 hts) dPl_point_70 ?_
          refine lv_iconst hx hb dPl_point_73 (v := (1 : Int32)) rfl ?_
          refine lv_iadd hx hb dPl_point_74 ?_
          replace h := ob h; obtain ⟨S16, eS16, h⟩ := h
          refine hq_put hx hb hts hown hW eS16 (F_Pl_82 hts) P_Pl_Pl_6 rfl rfl dPl_point_75 (fun H locs hW => ?_)
          refine lv_iload hx hb dPl_point_78 (lv_at hl 0 rfl) ?_
          exact hq_iret hx hb hr hlocks h (Nat.le_of_ble_eq_true rfl) (Nat.le_of_ble_eq_true rfl) hW dPl_point_80
        · replace h := if_t hc17 h
          refine lv_iconst hx hb dPl_point_37 (v := (-1 : Int32)) rfl ?_
          exact hq_iret hx hb hr hlocks h (Nat.le_of_ble_eq_true rfl) (Nat.le_of_ble_eq_true rfl) hW dPl_point_38
      refine lv_icmp_eq hx hb dPl_point_20 (tgt := 28) rfl (fun hc19 => ?_) (fun hc19 => ?_)
      · replace h := if_t hc19 h
        exact hP28_1  _ _ _ (lv_sub hl [0, 1, 2, 3] rfl) hW h
      · replace h := if_f hc19 h
        refine lv_iload_n hx hb dPl_point_23 rfl (lv_at hl 2 rfl) ?_
        refine lv_iconst hx hb dPl_point_24 (v := (4 : Int32)) rfl ?_
        refine lv_icmp_ne hx hb dPl_point_25 (tgt := 37) rfl (fun hc18 => ?_) (fun hc18 => ?_)
        · replace h := if_f hc18 h
          refine lv_iconst hx hb dPl_point_37 (v := (-1 : Int32)) rfl ?_
          exact hq_iret hx hb hr hlocks h (Nat.le_of_ble_eq_true rfl) (Nat.le_of_ble_eq_true rfl) hW dPl_point_38
        · replace h := if_t hc18 h
          exact hP28_1  _ _ _ (lv_sub hl [0, 1, 2, 3] rfl) hW h
    · replace h := if_f hc20 h
      refine lv_iconst hx hb dPl_point_16 (v := (-1 : Int32)) rfl ?_
      exact hq_iret hx hb hr hlocks h (Nat.le_of_ble_eq_true rfl) (Nat.le_of_ble_eq_true rfl) hW dPl_point_17
def fPl_enqueue (t0 : Nat) (t1 : Nat) (S : Ws) : Option (Int32 × Ws) :=
  (gI S t1 [3, 4] 1).bind fun v1 => (gO S t0 [7]).bind fun q4 => (fPl_isAttachedSlave t0 v1 S).bind fun (v3, S2) => if v3 = 0 then (bz (0 : Int32)).bind fun z25 => some ((0 : Int32), S2) else (gR S2 t0 [7] 0).bind fun r5 => (gI S2 t1 [3, 4] 1).bind fun v6 => (r5).bind fun a7 => (aR S2 a7 3 (v6 - (1 : Int32))).bind fun r8 => (r8).bind fun a9 => (gI S2 a9 [5] 5).bind fun v10 => (fPl_isLine v10 S2).bind fun (v12, S11) => if v12 = 0 then (bz (0 : Int32)).bind fun z13 => some ((0 : Int32), S11) else (gR S11 t0 [7] 1).bind fun r14 => (r14).bind fun a15 => (aR S11 a15 4 v10).bind fun r16 => (r16).bind fun a17 => (gO S11 a17 [2]).bind fun q20 => (fLi_enqueue a17 t1 S11).bind fun (v19, S18) => if v19 = 0 then (bz (0 : Int32)).bind fun z21 => some ((0 : Int32), S18) else (bz (1 : Int32)).bind fun z22 => some ((1 : Int32), S18)
set_option maxRecDepth 100000 in
set_option maxHeartbeats 4000000 in
theorem kPl_enqueue (l : Launch) (D : va_G) (tc : Nat → ClassId) (b : Nat) (t0 : Nat) (t1 : Nat) (S Sz : Ws) (rr : Int32) (h : fPl_enqueue t0 t1 S = some (rr, Sz)) : Met l yPl_enqueue wsPl_enqueue { frames := 3, cells := 0, slots := 0, locals := 120 } (va_Pc [.ref t0, .ref t1] (Wp D vwCl (hTy tc) b S)) (va_Qi (fun x (_ : Unit) => x = rr) (fun _ => Wp D vwCl (hTy tc) b Sz) (fun q => b ≤ q)) 0 0 (fun q => b ≤ q) := by
  refine hq_ofW (cc := cPl_enqueue) (maxL := 3) (ret := (some .boolean)) (by decide) rfl (Nat.le_of_ble_eq_true rfl) fun p e s m args below meth c hx hb hr hts hown hlocks hnm hml H locs ls hl hW => ?_
  have hts : ∀ w ∈ lwG, w.before args s = true := fun w h => hts w (List.mem_cons_of_mem _ h)
  have hown : s.vm.findClass "SerialPlant" = some m.cls := hown
  have hl : lv_has ls 3 [(0, .ref t0), (1, .ref t1)] := hl
  unfold fPl_enqueue at h
  refine lv_aload_n hx hb dPl_enqueue_0 rfl (lv_at hl 0 rfl) ?_
  refine lv_aload_n hx hb dPl_enqueue_1 rfl (lv_at hl 1 rfl) ?_
  replace h := ob h; obtain ⟨v1, ev1, h⟩ := h
  refine hq_get hx hb hts hown hW (gI_V ev1) (F_Pl_176 hts) dPl_enqueue_2 ?_
  replace h := ob h; obtain ⟨q4, eq4, h⟩ := h
  replace h := ob h; obtain ⟨⟨v3, S2⟩, eS2, h⟩ := h
  refine hq_calli (ce := 0) (sl := 0) (va_runV (As := [.int v1]) (rest := []) ⟨hx, hb, hml, hown, hts⟩ (kPl_isAttachedSlave l D tc b t0 v1 S _ _ eS2) (cwV 1 hts GV_Pl_79_Pl rfl rfl rfl hd_Pl_isAttachedSlave_V ⟨Nat.le_of_ble_eq_true rfl, Nat.le_of_ble_eq_true rfl⟩) (hq_preV1 hW eq4 rfl rfl) rfl rfl hl.1 rfl (lv_room (by first | exact Nat.le_of_ble_eq_true rfl | (simp only [List.map, rf_cat]; exact Nat.le_of_ble_eq_true rfl))) dPl_enqueue_5 ⟨Nat.le_of_ble_eq_true rfl, Nat.le_of_ble_eq_true rfl⟩) hW rfl rfl (fun H locs hW => ?_)
  refine lv_if_ne hx hb dPl_enqueue_8 (tgt := 13) rfl (fun hc26 => ?_) (fun hc26 => ?_)
  · replace h := if_f hc26 h
    refine lv_aload_n hx hb dPl_enqueue_13 rfl (lv_at hl 0 rfl) ?_
    replace h := ob h; obtain ⟨r5, er5, h⟩ := h
    refine hq_get hx hb hts hown hW (gR_V er5) (F_Pl_11 hts) dPl_enqueue_14 ?_
    refine lv_aload_n hx hb dPl_enqueue_17 rfl (lv_at hl 1 rfl) ?_
    replace h := ob h; obtain ⟨v6, ev6, h⟩ := h
    refine hq_get hx hb hts hown hW (gI_V ev6) (F_Pl_176 hts) dPl_enqueue_18 ?_
    refine lv_iconst hx hb dPl_enqueue_21 (v := (1 : Int32)) rfl ?_
    refine lv_isub hx hb dPl_enqueue_22 ?_
    replace h := ob h; obtain ⟨a7, hra7, h⟩ := h
    subst hra7
    replace h := ob h; obtain ⟨r8, er8, h⟩ := h
    refine hq_aald hx hb hW er8 rfl dPl_enqueue_23 ?_
    replace h := ob h; obtain ⟨a9, hra9, h⟩ := h
    subst hra9
    replace h := ob h; obtain ⟨v10, ev10, h⟩ := h
    refine hq_get hx hb hts hown hW (gI_V ev10) (F_Pl_59 hts) dPl_enqueue_24 ?_
    refine lv_istore_n (lv' := [(2, .int v10), (0, .ref t0), (1, .ref t1)]) hx hb dPl_enqueue_27 rfl hl (Nat.le_of_ble_eq_true rfl) (by first | rfl | (simp [List.filter, rf_cat] <;> rfl)) (fun ls hl => ?_)
    refine lv_iload_n hx hb dPl_enqueue_28 rfl (lv_at hl 0 rfl) ?_
    replace h := ob h; obtain ⟨⟨v12, S11⟩, eS11, h⟩ := h
    refine hq_calli (ce := 0) (sl := 0) (va_runS (As := [.int v10]) (rest := []) ⟨hx, hb, hml, hown, hts⟩ (kPl_isLine l D tc b v10 S2 _ _ eS11) (cwS 1 hts GS_Pl_48 rfl rfl rfl hd_Pl_isLine_S_Pl ⟨Nat.le_of_ble_eq_true rfl, Nat.le_of_ble_eq_true rfl⟩) (hq_preS hW) rfl rfl hl.1 rfl (lv_room (by first | exact Nat.le_of_ble_eq_true rfl | (simp only [List.map, rf_cat]; exact Nat.le_of_ble_eq_true rfl))) dPl_enqueue_29 ⟨Nat.le_of_ble_eq_true rfl, Nat.le_of_ble_eq_true rfl⟩) hW rfl rfl (fun H locs hW => ?_)
    refine lv_if_eq hx hb dPl_enqueue_32 (tgt := 52) rfl (fun hc24 => ?_) (fun hc24 => ?_)
    · replace h := if_t hc24 h
      refine lv_iconst hx hb dPl_enqueue_52 (v := (0 : Int32)) rfl ?_
      replace h := ob h; obtain ⟨z13, ez13, h⟩ := h
      exact hq_zret hx hb hr hlocks (bz_some ez13).2 h (Nat.le_of_ble_eq_true rfl) (Nat.le_of_ble_eq_true rfl) hW dPl_enqueue_53
    · replace h := if_f hc24 h
      refine lv_aload_n hx hb dPl_enqueue_35 rfl (lv_at hl 1 rfl) ?_
      replace h := ob h; obtain ⟨r14, er14, h⟩ := h
      refine hq_get hx hb hts hown hW (gR_V er14) (F_Pl_20 hts) dPl_enqueue_36 ?_
      refine lv_iload_n hx hb dPl_enqueue_39 rfl (lv_at hl 0 rfl) ?_
      replace h := ob h; obtain ⟨a15, hra15, h⟩ := h
      subst hra15
      replace h := ob h; obtain ⟨r16, er16, h⟩ := h
      refine hq_aald hx hb hW er16 rfl dPl_enqueue_40 ?_
      refine lv_aload_n hx hb dPl_enqueue_41 rfl (lv_at hl 2 rfl) ?_
      replace h := ob h; obtain ⟨a17, hra17, h⟩ := h
      subst hra17
      replace h := ob h; obtain ⟨q20, eq20, h⟩ := h
      replace h := ob h; obtain ⟨⟨v19, S18⟩, eS18, h⟩ := h
      refine hq_calli (ce := 0) (sl := 0) (va_runV (As := [.ref t1]) (rest := []) ⟨hx, hb, hml, hown, hts⟩ (kLi_enqueue l D tc b a17 t1 S11 _ _ eS18) (cwV 1 hts GV_Pl_168_Li rfl rfl rfl hd_Li_enqueue_V ⟨Nat.le_of_ble_eq_true rfl, Nat.le_of_ble_eq_true rfl⟩) (hq_preV1 hW eq20 rfl rfl) rfl rfl hl.1 rfl (lv_room (by first | exact Nat.le_of_ble_eq_true rfl | (simp only [List.map, rf_cat]; exact Nat.le_of_ble_eq_true rfl))) dPl_enqueue_42 ⟨Nat.le_of_ble_eq_true rfl, Nat.le_of_ble_eq_true rfl⟩) hW rfl rfl (fun H locs hW => ?_)
      refine lv_if_eq hx hb dPl_enqueue_45 (tgt := 52) rfl (fun hc23 => ?_) (fun hc23 => ?_)
      · replace h := if_t hc23 h
        refine lv_iconst hx hb dPl_enqueue_52 (v := (0 : Int32)) rfl ?_
        replace h := ob h; obtain ⟨z21, ez21, h⟩ := h
        exact hq_zret hx hb hr hlocks (bz_some ez21).2 h (Nat.le_of_ble_eq_true rfl) (Nat.le_of_ble_eq_true rfl) hW dPl_enqueue_53
      · replace h := if_f hc23 h
        refine lv_iconst hx hb dPl_enqueue_48 (v := (1 : Int32)) rfl ?_
        refine lv_goto hx hb dPl_enqueue_49 (tgt := 53) rfl ?_
        replace h := ob h; obtain ⟨z22, ez22, h⟩ := h
        exact hq_zret hx hb hr hlocks (bz_some ez22).2 h (Nat.le_of_ble_eq_true rfl) (Nat.le_of_ble_eq_true rfl) hW dPl_enqueue_53
  · replace h := if_t hc26 h
    refine lv_iconst hx hb dPl_enqueue_11 (v := (0 : Int32)) rfl ?_
    replace h := ob h; obtain ⟨z25, ez25, h⟩ := h
    exact hq_zret hx hb hr hlocks (bz_some ez25).2 h (Nat.le_of_ble_eq_true rfl) (Nat.le_of_ble_eq_true rfl) hW dPl_enqueue_12
def fPl_accept_L14 (t0 : Nat) (t1 : Nat) : Int32 × Ws → Option ((Int32 × Ws) ⊕ (Ws)) :=
  fun (i11, S12) => if (2 : Int32) ≤ i11 then some (.inr S12) else (gR S12 t0 [7] 1).bind fun r15 => (r15).bind fun a16 => (aR S12 a16 4 i11).bind fun r17 => (r17).bind fun a18 => (gO S12 a18 [2]).bind fun q21 => (fLi_enqueue a18 t1 S12).bind fun (v20, S19) => some (.inl (i11 + 1, S19))
def fPl_accept (t0 : Nat) (t1 : Nat) (S : Ws) : Option (Ws) :=
  (gO S t1 [4]).bind fun q3 => (fJo_isBroadcast t1 S).bind fun (v2, S1) => if v2 = 0 then (gO S1 t0 [7]).bind fun q6 => (fPl_enqueue t0 t1 S1).bind fun (v5, S4) => if v5 = 0 then (gO S4 t1 [4]).bind fun q8 => (fRe_refuse t1 (10 : Int32) S4).bind fun S7 => some S7 else some S4 else (pV S1 t1 [4] 6 (.int (3 : Int32))).bind fun S10 => (lp (fPl_accept_L14 t0 t1) 1000 ((0 : Int32), S10)).bind fun S14 => some S14
set_option maxRecDepth 100000 in
set_option maxHeartbeats 4000000 in
theorem kPl_accept (l : Launch) (D : va_G) (tc : Nat → ClassId) (b : Nat) (t0 : Nat) (t1 : Nat) (S Sz : Ws) (h : fPl_accept t0 t1 S = some Sz) : Met l yPl_accept wsPl_accept { frames := 4, cells := 0, slots := 0, locals := 160 } (va_Pc [.ref t0, .ref t1] (Wp D vwCl (hTy tc) b S)) (va_Qv (fun _ : Unit => True) (fun _ => Wp D vwCl (hTy tc) b Sz) (fun q => b ≤ q)) 0 0 (fun q => b ≤ q) := by
  refine hq_ofW (cc := cPl_accept) (maxL := 3) (ret := none) (by decide) rfl (Nat.le_of_ble_eq_true rfl) fun p e s m args below meth c hx hb hr hts hown hlocks hnm hml H locs ls hl hW => ?_
  have hts : ∀ w ∈ lwG, w.before args s = true := fun w h => hts w (List.mem_cons_of_mem _ h)
  have hown : s.vm.findClass "SerialPlant" = some m.cls := hown
  have hl : lv_has ls 3 [(0, .ref t0), (1, .ref t1)] := hl
  unfold fPl_accept at h
  refine lv_aload_n hx hb dPl_accept_0 rfl (lv_at hl 1 rfl) ?_
  replace h := ob h; obtain ⟨q3, eq3, h⟩ := h
  replace h := ob h; obtain ⟨⟨v2, S1⟩, eS1, h⟩ := h
  refine hq_calli (ce := 0) (sl := 0) (va_runU (As := []) (rest := []) ⟨hx, hb, hml, hown, hts⟩ (kJo_isBroadcast l D tc b t1 S _ _ eS1) (va_cwU 0 hts GU_Pl_165_Re rfl rfl rfl rfl hd_Jo_isBroadcast_U ⟨Nat.le_of_ble_eq_true rfl, Nat.le_of_ble_eq_true rfl⟩) (hq_preV1 hW eq3 rfl rfl) rfl rfl hl.1 rfl (lv_room (by first | exact Nat.le_of_ble_eq_true rfl | (simp only [List.map, rf_cat]; exact Nat.le_of_ble_eq_true rfl))) dPl_accept_1 ⟨Nat.le_of_ble_eq_true rfl, Nat.le_of_ble_eq_true rfl⟩) hW rfl rfl (fun H locs hW => ?_)
  refine lv_if_eq hx hb dPl_accept_4 (tgt := 39) rfl (fun hc23 => ?_) (fun hc23 => ?_)
  · replace h := if_t hc23 h
    refine lv_aload_n hx hb dPl_accept_39 rfl (lv_at hl 0 rfl) ?_
    refine lv_aload_n hx hb dPl_accept_40 rfl (lv_at hl 1 rfl) ?_
    replace h := ob h; obtain ⟨q6, eq6, h⟩ := h
    replace h := ob h; obtain ⟨⟨v5, S4⟩, eS4, h⟩ := h
    refine hq_calli (ce := 0) (sl := 0) (va_runV (As := [.ref t1]) (rest := []) ⟨hx, hb, hml, hown, hts⟩ (kPl_enqueue l D tc b t0 t1 S1 _ _ eS4) (cwV 1 hts GV_Pl_172_Pl rfl rfl rfl hd_Pl_enqueue_V ⟨Nat.le_of_ble_eq_true rfl, Nat.le_of_ble_eq_true rfl⟩) (hq_preV1 hW eq6 rfl rfl) rfl rfl hl.1 rfl (lv_room (by first | exact Nat.le_of_ble_eq_true rfl | (simp only [List.map, rf_cat]; exact Nat.le_of_ble_eq_true rfl))) dPl_accept_41 ⟨Nat.le_of_ble_eq_true rfl, Nat.le_of_ble_eq_true rfl⟩) hW rfl rfl (fun H locs hW => ?_)
    refine lv_if_ne hx hb dPl_accept_44 (tgt := 53) rfl (fun hc9 => ?_) (fun hc9 => ?_)
    · replace h := if_f hc9 h
      exact hq_vret hx hb hr hlocks h (Nat.le_of_ble_eq_true rfl) (Nat.le_of_ble_eq_true rfl) hW dPl_accept_53
    · replace h := if_t hc9 h
      refine lv_aload_n hx hb dPl_accept_47 rfl (lv_at hl 1 rfl) ?_
      refine lv_bipush hx hb dPl_accept_48 (v := (10 : Int32)) rfl ?_
      replace h := ob h; obtain ⟨q8, eq8, h⟩ := h
      replace h := ob h; obtain ⟨S7, eS7, h⟩ := h
      refine hq_callv (ce := 0) (sl := 0) (va_runV (As := [.int (10 : Int32)]) (rest := []) ⟨hx, hb, hml, hown, hts⟩ (kRe_refuse l D tc b t1 (10 : Int32) S4 _ eS7) (cwV 1 hts GV_Pl_173_Re rfl rfl rfl hd_Re_refuse_V ⟨Nat.le_of_ble_eq_true rfl, Nat.le_of_ble_eq_true rfl⟩) (hq_preV1 hW eq8 rfl rfl) rfl rfl hl.1 rfl (lv_room (by first | exact Nat.le_of_ble_eq_true rfl | (simp only [List.map, rf_cat]; exact Nat.le_of_ble_eq_true rfl))) dPl_accept_50 ⟨Nat.le_of_ble_eq_true rfl, Nat.le_of_ble_eq_true rfl⟩) hW rfl rfl (fun H locs hW => ?_)
      exact hq_vret hx hb hr hlocks h (Nat.le_of_ble_eq_true rfl) (Nat.le_of_ble_eq_true rfl) hW dPl_accept_53
  · replace h := if_f hc23 h
    refine lv_aload_n hx hb dPl_accept_7 rfl (lv_at hl 1 rfl) ?_
    refine lv_iconst hx hb dPl_accept_8 (v := (3 : Int32)) rfl ?_
    replace h := ob h; obtain ⟨S10, eS10, h⟩ := h
    refine hq_put hx hb hts hown hW eS10 (F_Pl_119 hts) P_Pl_Re_6 rfl rfl dPl_accept_9 (fun H locs hW => ?_)
    refine lv_iconst hx hb dPl_accept_12 (v := (0 : Int32)) rfl ?_
    refine lv_istore_n (lv' := [(2, .int (0 : Int32)), (0, .ref t0), (1, .ref t1)]) hx hb dPl_accept_13 rfl hl (Nat.le_of_ble_eq_true rfl) (by first | rfl | (simp [List.filter, rf_cat] <;> rfl)) (fun ls hl => ?_)
    replace h := ob h; obtain ⟨S14, eS14, h⟩ := h
    have hX : (fun q' => ∀ (H : Heap) (locs : List Loc) (ls : Array Slot), lv_has ls 3 [] → Wd D vwCl (hTy tc) b q' s H locs → W p l e { frames := 4, cells := 0, slots := 0, locals := 160 } s m args below meth c H locs 0 0 (MQ below (va_Qv (fun _ : Unit => True) (fun _ => Wp D vwCl (hTy tc) b Sz) (fun q => b ≤ q)) args s 0 0 (fun q => b ≤ q)) (F0 m 36 ls [])) S14 := by
      intro H locs ls hl hW
      refine lv_goto hx hb dPl_accept_36 (tgt := 53) rfl ?_
      exact hq_vret hx hb hr hlocks h (Nat.le_of_ble_eq_true rfl) (Nat.le_of_ble_eq_true rfl) hW dPl_accept_53
    refine lp_ind (P := fun q' => ∀ (H : Heap) (locs : List Loc) (ls : Array Slot), lv_has ls 3 [(0, .ref t0), (1, .ref t1), (2, .int q'.1)] → Wd D vwCl (hTy tc) b q'.2 s H locs → W p l e { frames := 4, cells := 0, slots := 0, locals := 160 } s m args below meth c H locs 0 0 (MQ below (va_Qv (fun _ : Unit => True) (fun _ => Wp D vwCl (hTy tc) b Sz) (fun q => b ≤ q)) args s 0 0 (fun q => b ≤ q)) (F0 m 14 ls [])) (Q := fun q' => ∀ (H : Heap) (locs : List Loc) (ls : Array Slot), lv_has ls 3 [] → Wd D vwCl (hTy tc) b q' s H locs → W p l e { frames := 4, cells := 0, slots := 0, locals := 160 } s m args below meth c H locs 0 0 (MQ below (va_Qv (fun _ : Unit => True) (fun _ => Wp D vwCl (hTy tc) b Sz) (fun q => b ≤ q)) args s 0 0 (fun q => b ≤ q)) (F0 m 36 ls [])) (fun q' x13 h hin hex => ?_) hX _ _ eS14 _ _ _ (lv_sub hl [1, 2, 0] rfl) hW
    obtain ⟨i11, S12⟩ := q'
    intro H locs ls hl hW
    unfold fPl_accept_L14 at h
    refine lv_iload_n hx hb dPl_accept_14 rfl (lv_at hl 2 rfl) ?_
    refine lv_iconst hx hb dPl_accept_15 (v := (2 : Int32)) rfl ?_
    refine lv_icmp_ge hx hb dPl_accept_16 (tgt := 36) rfl (fun hc22 => ?_) (fun hc22 => ?_)
    · replace h := if_t hc22 h
      exact hex _ (Option.some.inj h).symm _ _ _ (lv_sub hl [] rfl) hW
    · replace h := if_f hc22 h
      refine lv_aload_n hx hb dPl_accept_19 rfl (lv_at hl 0 rfl) ?_
      replace h := ob h; obtain ⟨r15, er15, h⟩ := h
      refine hq_get hx hb hts hown hW (gR_V er15) (F_Pl_20 hts) dPl_accept_20 ?_
      refine lv_iload_n hx hb dPl_accept_23 rfl (lv_at hl 2 rfl) ?_
      replace h := ob h; obtain ⟨a16, hra16, h⟩ := h
      subst hra16
      replace h := ob h; obtain ⟨r17, er17, h⟩ := h
      refine hq_aald hx hb hW er17 rfl dPl_accept_24 ?_
      refine lv_aload_n hx hb dPl_accept_25 rfl (lv_at hl 1 rfl) ?_
      replace h := ob h; obtain ⟨a18, hra18, h⟩ := h
      subst hra18
      replace h := ob h; obtain ⟨q21, eq21, h⟩ := h
      replace h := ob h; obtain ⟨⟨v20, S19⟩, eS19, h⟩ := h
      refine hq_calli (ce := 0) (sl := 0) (va_runV (As := [.ref t1]) (rest := []) ⟨hx, hb, hml, hown, hts⟩ (kLi_enqueue l D tc b a18 t1 S12 _ _ eS19) (cwV 1 hts GV_Pl_168_Li rfl rfl rfl hd_Li_enqueue_V ⟨Nat.le_of_ble_eq_true rfl, Nat.le_of_ble_eq_true rfl⟩) (hq_preV1 hW eq21 rfl rfl) rfl rfl hl.1 rfl (lv_room (by first | exact Nat.le_of_ble_eq_true rfl | (simp only [List.map, rf_cat]; exact Nat.le_of_ble_eq_true rfl))) dPl_accept_26 ⟨Nat.le_of_ble_eq_true rfl, Nat.le_of_ble_eq_true rfl⟩) hW rfl rfl (fun H locs hW => ?_)
      refine lv_pop hx hb dPl_accept_29 rfl ?_
      refine lv_iinc (k := 2) (v := i11 + 1) (lv' := [(2, .int (i11 + 1)), (0, .ref t0), (1, .ref t1)]) hx hb dPl_accept_30 hl rfl rfl (Nat.le_of_ble_eq_true rfl) (by first | rfl | (simp [List.filter, rf_cat] <;> rfl)) (fun ls hl => ?_)
      refine lv_goto hx hb dPl_accept_33 (tgt := 14) rfl ?_
      exact hin _ (Option.some.inj h).symm _ _ _ (lv_sub hl [1, 2, 0] rfl) hW
def fPl_request (t0 : Nat) (t1 : Int32) (t2 : Int32) (t3 : Int32) (t4 : Int32) (t5 : Int64) (S : Ws) : Option (Int32 × Ws) :=
  (fPl_isWithin t1 (247 : Int32) S).bind fun (v2, S1) => if v2 = 0 then some ((-1 : Int32), S1) else if t2 < (1 : Int32) then some ((-1 : Int32), S1) else if t2 ≤ (127 : Int32) then (fPl_isWithin t3 (65535 : Int32) S1).bind fun (v4, S3) => if v4 = 0 then some ((-1 : Int32), S3) else (fPl_isWithin t4 (16 : Int32) S3).bind fun (v6, S5) => if v6 = 0 then some ((-1 : Int32), S5) else (gI S5 t0 [7] 5).bind fun v7 => if v7 < (64 : Int32) then (gI S5 t0 [7] 5).bind fun v8 => (fRe_init S5.1 v8 t1 t2 t3 t4 t5 (S5.add (.inr (4, [.int 0, .int 0, .int 0, .int 0, .int 0, .long 0, .int 0, .int 0, .long 0])))).bind fun S9 => (gR S9 t0 [7] 2).bind fun r10 => (r10).bind fun a11 => (ck S9 (some S5.1) [4]).bind fun z13 => (sR S9 a11 5 v8 (some S5.1)).bind fun S12 => (gI S12 t0 [7] 5).bind fun v14 => (pV S12 t0 [7] 5 (.int (v14 + (1 : Int32)))).bind fun S15 => (gO S15 t0 [7]).bind fun q17 => (fPl_accept t0 S5.1 S15).bind fun S16 => some (v8, S16) else some ((-1 : Int32), S5) else some ((-1 : Int32), S1)
set_option maxRecDepth 100000 in
set_option maxHeartbeats 4000000 in
theorem kPl_request (l : Launch) (D : va_G) (tc : Nat → ClassId) (b : Nat) (t0 : Nat) (t1 : Int32) (t2 : Int32) (t3 : Int32) (t4 : Int32) (t5 : Int64) (S Sz : Ws) (rr : Int32) (h : fPl_request t0 t1 t2 t3 t4 t5 S = some (rr, Sz)) : Met l yPl_request wsPl_request { frames := 5, cells := 1, slots := 9, locals := 200 } (va_Pc [.ref t0, .int t1, .int t2, .int t3, .int t4, .long t5] (Wp D vwCl (hTy tc) b S)) (va_Qi (fun x (_ : Unit) => x = rr) (fun _ => Wp D vwCl (hTy tc) b Sz) (fun q => b ≤ q)) 1 9 (fun q => b ≤ q) := by
  refine hq_ofW (cc := cPl_request) (maxL := 9) (ret := (some .int)) (by decide) rfl (Nat.le_of_ble_eq_true rfl) fun p e s m args below meth c hx hb hr hts hown hlocks hnm hml H locs ls hl hW => ?_
  have hts : ∀ w ∈ lwG, w.before args s = true := fun w h => hts w (List.mem_cons_of_mem _ h)
  have hown : s.vm.findClass "SerialPlant" = some m.cls := hown
  have hl : lv_has ls 9 [(0, .ref t0), (1, .int t1), (2, .int t2), (3, .int t3), (4, .int t4), (5, .long t5)] := hl
  unfold fPl_request at h
  refine lv_iload_n hx hb dPl_request_0 rfl (lv_at hl 1 rfl) ?_
  refine lv_sipush hx hb dPl_request_1 (v := (247 : Int32)) rfl ?_
  replace h := ob h; obtain ⟨⟨v2, S1⟩, eS1, h⟩ := h
  refine hq_calli (ce := 0) (sl := 0) (va_runS (As := [.int t1, .int (247 : Int32)]) (rest := []) ⟨hx, hb, hml, hown, hts⟩ (kPl_isWithin l D tc b t1 (247 : Int32) S _ _ eS1) (cwS 2 hts GS_Pl_51 rfl rfl rfl hd_Pl_isWithin_S_Pl ⟨Nat.le_of_ble_eq_true rfl, Nat.le_of_ble_eq_true rfl⟩) (hq_preS hW) rfl rfl hl.1 rfl (lv_room (by first | exact Nat.le_of_ble_eq_true rfl | (simp only [List.map, rf_cat]; exact Nat.le_of_ble_eq_true rfl))) dPl_request_4 ⟨Nat.le_of_ble_eq_true rfl, Nat.le_of_ble_eq_true rfl⟩) hW rfl rfl (fun H locs hW => ?_)
  refine lv_if_eq hx hb dPl_request_7 (tgt := 21) rfl (fun hc23 => ?_) (fun hc23 => ?_)
  · replace h := if_t hc23 h
    refine lv_iconst hx hb dPl_request_21 (v := (-1 : Int32)) rfl ?_
    exact hq_iret hx hb hr hlocks h (Nat.le_of_ble_eq_true rfl) (Nat.le_of_ble_eq_true rfl) hW dPl_request_22
  · replace h := if_f hc23 h
    refine lv_iload_n hx hb dPl_request_10 rfl (lv_at hl 2 rfl) ?_
    refine lv_iconst hx hb dPl_request_11 (v := (1 : Int32)) rfl ?_
    refine lv_icmp_lt hx hb dPl_request_12 (tgt := 21) rfl (fun hc22 => ?_) (fun hc22 => ?_)
    · replace h := if_t hc22 h
      refine lv_iconst hx hb dPl_request_21 (v := (-1 : Int32)) rfl ?_
      exact hq_iret hx hb hr hlocks h (Nat.le_of_ble_eq_true rfl) (Nat.le_of_ble_eq_true rfl) hW dPl_request_22
    · replace h := if_f hc22 h
      refine lv_iload_n hx hb dPl_request_15 rfl (lv_at hl 2 rfl) ?_
      refine lv_bipush hx hb dPl_request_16 (v := (127 : Int32)) rfl ?_
      refine lv_icmp_le hx hb dPl_request_18 (tgt := 23) rfl (fun hc21 => ?_) (fun hc21 => ?_)
      · replace h := if_t hc21 h
        refine lv_iload_n hx hb dPl_request_23 rfl (lv_at hl 3 rfl) ?_
        refine lv_ldc hx hb (v := (65535 : Int32)) hown (hts _ w_212) dPl_request_24 ?_
        replace h := ob h; obtain ⟨⟨v4, S3⟩, eS3, h⟩ := h
        refine hq_calli (ce := 0) (sl := 0) (va_runS (As := [.int t3, .int (65535 : Int32)]) (rest := []) ⟨hx, hb, hml, hown, hts⟩ (kPl_isWithin l D tc b t3 (65535 : Int32) S1 _ _ eS3) (cwS 2 hts GS_Pl_51 rfl rfl rfl hd_Pl_isWithin_S_Pl ⟨Nat.le_of_ble_eq_true rfl, Nat.le_of_ble_eq_true rfl⟩) (hq_preS hW) rfl rfl hl.1 rfl (lv_room (by first | exact Nat.le_of_ble_eq_true rfl | (simp only [List.map, rf_cat]; exact Nat.le_of_ble_eq_true rfl))) dPl_request_26 ⟨Nat.le_of_ble_eq_true rfl, Nat.le_of_ble_eq_true rfl⟩) hW rfl rfl (fun H locs hW => ?_)
        refine lv_if_eq hx hb dPl_request_29 (tgt := 51) rfl (fun hc20 => ?_) (fun hc20 => ?_)
        · replace h := if_t hc20 h
          refine lv_iconst hx hb dPl_request_51 (v := (-1 : Int32)) rfl ?_
          exact hq_iret hx hb hr hlocks h (Nat.le_of_ble_eq_true rfl) (Nat.le_of_ble_eq_true rfl) hW dPl_request_52
        · replace h := if_f hc20 h
          refine lv_iload hx hb dPl_request_32 (lv_at hl 4 rfl) ?_
          refine lv_bipush hx hb dPl_request_34 (v := (16 : Int32)) rfl ?_
          replace h := ob h; obtain ⟨⟨v6, S5⟩, eS5, h⟩ := h
          refine hq_calli (ce := 0) (sl := 0) (va_runS (As := [.int t4, .int (16 : Int32)]) (rest := []) ⟨hx, hb, hml, hown, hts⟩ (kPl_isWithin l D tc b t4 (16 : Int32) S3 _ _ eS5) (cwS 2 hts GS_Pl_51 rfl rfl rfl hd_Pl_isWithin_S_Pl ⟨Nat.le_of_ble_eq_true rfl, Nat.le_of_ble_eq_true rfl⟩) (hq_preS hW) rfl rfl hl.1 rfl (lv_room (by first | exact Nat.le_of_ble_eq_true rfl | (simp only [List.map, rf_cat]; exact Nat.le_of_ble_eq_true rfl))) dPl_request_36 ⟨Nat.le_of_ble_eq_true rfl, Nat.le_of_ble_eq_true rfl⟩) hW rfl rfl (fun H locs hW => ?_)
          refine lv_if_eq hx hb dPl_request_39 (tgt := 51) rfl (fun hc19 => ?_) (fun hc19 => ?_)
          · replace h := if_t hc19 h
            refine lv_iconst hx hb dPl_request_51 (v := (-1 : Int32)) rfl ?_
            exact hq_iret hx hb hr hlocks h (Nat.le_of_ble_eq_true rfl) (Nat.le_of_ble_eq_true rfl) hW dPl_request_52
          · replace h := if_f hc19 h
            refine lv_aload_n hx hb dPl_request_42 rfl (lv_at hl 0 rfl) ?_
            replace h := ob h; obtain ⟨v7, ev7, h⟩ := h
            refine hq_get hx hb hts hown hW (gI_V ev7) (F_Pl_88 hts) dPl_request_43 ?_
            refine lv_bipush hx hb dPl_request_46 (v := (64 : Int32)) rfl ?_
            refine lv_icmp_lt hx hb dPl_request_48 (tgt := 53) rfl (fun hc18 => ?_) (fun hc18 => ?_)
            · replace h := if_t hc18 h
              refine lv_aload_n hx hb dPl_request_53 rfl (lv_at hl 0 rfl) ?_
              replace h := ob h; obtain ⟨v8, ev8, h⟩ := h
              refine hq_get hx hb hts hown hW (gI_V ev8) (F_Pl_88 hts) dPl_request_54 ?_
              refine lv_istore (lv' := [(7, .int v8), (0, .ref t0), (1, .int t1), (2, .int t2), (3, .int t3), (4, .int t4), (5, .long t5)]) hx hb dPl_request_57 hl (Nat.le_of_ble_eq_true rfl) (by first | rfl | (simp [List.filter, rf_cat] <;> rfl)) (fun ls hl => ?_)
              refine hq_new (ci := 4) (fs := [.int 0, .int 0, .int 0, .int 0, .int 0, .long 0, .int 0, .int 0, .long 0]) (C := "SerialPlant$Request") (T := TRe) (N := 9) (ce := 1) (sl := 9) hx hb hts inRe tyRe tyRe_ok hown (hts _ w_129) (hts _ w_275) (hts _ w_10) hW rfl dfRe rfl rfl (Nat.le_of_ble_eq_true rfl) (Nat.le_of_ble_eq_true rfl) dPl_request_59 (fun H hW => ?_)
              refine lv_dup hx hb dPl_request_62 rfl ?_
              refine lv_iload hx hb dPl_request_63 (lv_at hl 0 rfl) ?_
              refine lv_iload_n hx hb dPl_request_65 rfl (lv_at hl 2 rfl) ?_
              refine lv_iload_n hx hb dPl_request_66 rfl (lv_at hl 3 rfl) ?_
              refine lv_iload_n hx hb dPl_request_67 rfl (lv_at hl 4 rfl) ?_
              refine lv_iload hx hb dPl_request_68 (lv_at hl 5 rfl) ?_
              refine lv_lload hx hb dPl_request_70 (lv_at hl 6 rfl) ?_
              replace h := ob h; obtain ⟨S9, eS9, h⟩ := h
              refine hq_callv (ce := 1) (sl := 9) (va_runI (As := [.int v8, .int t1, .int t2, .int t3, .int t4, .long t5]) (rest := [.ref S5.1]) ⟨hx, hb, hml, hown, hts⟩ (kRe_init l D tc b S5.1 v8 t1 t2 t3 t4 t5 (S5.add (.inr (4, [.int 0, .int 0, .int 0, .int 0, .int 0, .long 0, .int 0, .int 0, .long 0]))) _ eS9) (cwI 6 hts G0_Re_init rfl rfl rfl (hts _ w_10) (hts _ w_276) (hts _ w_277) rfl hd_Re_init_I ⟨Nat.le_of_ble_eq_true rfl, Nat.le_of_ble_eq_true rfl⟩) (hq_preS hW) rfl rfl hl.1 rfl (lv_room (by first | exact Nat.le_of_ble_eq_true rfl | (simp only [List.map, rf_cat]; exact Nat.le_of_ble_eq_true rfl))) dPl_request_72 ⟨Nat.le_of_ble_eq_true rfl, Nat.le_of_ble_eq_true rfl⟩) hW rfl rfl (fun H locs hW => ?_)
              refine lv_astore (lv' := [(8, .ref S5.1), (7, .int v8), (0, .ref t0), (1, .int t1), (2, .int t2), (3, .int t3), (4, .int t4), (5, .long t5)]) hx hb dPl_request_75 hl (Nat.le_of_ble_eq_true rfl) (by first | rfl | (simp [List.filter, rf_cat] <;> rfl)) (fun ls hl => ?_)
              refine lv_aload_n hx hb dPl_request_77 rfl (lv_at hl 2 rfl) ?_
              replace h := ob h; obtain ⟨r10, er10, h⟩ := h
              refine hq_get hx hb hts hown hW (gR_V er10) (F_Pl_27 hts) dPl_request_78 ?_
              refine lv_iload hx hb dPl_request_81 (lv_at hl 1 rfl) ?_
              refine lv_aload hx hb dPl_request_83 (lv_at hl 0 rfl) ?_
              replace h := ob h; obtain ⟨a11, hra11, h⟩ := h
              subst hra11
              replace h := ob h; obtain ⟨z13, ez13, h⟩ := h
              replace h := ob h; obtain ⟨S12, eS12, h⟩ := h
              refine hq_aast (x := (some S5.1)) hx hb hW ez13 eS12 rfl (fk1 ⟨_, rfl, Or.inl rfl⟩) dPl_request_85 (fun H locs hW => ?_)
              refine lv_aload_n hx hb dPl_request_86 rfl (lv_at hl 2 rfl) ?_
              refine lv_dup hx hb dPl_request_87 rfl ?_
              replace h := ob h; obtain ⟨v14, ev14, h⟩ := h
              refine hq_get hx hb hts hown hW (gI_V ev14) (F_Pl_88 hts) dPl_request_88 ?_
              refine lv_iconst hx hb dPl_request_91 (v := (1 : Int32)) rfl ?_
              refine lv_iadd hx hb dPl_request_92 ?_
              replace h := ob h; obtain ⟨S15, eS15, h⟩ := h
              refine hq_put hx hb hts hown hW eS15 (F_Pl_88 hts) P_Pl_Pl_5 rfl rfl dPl_request_93 (fun H locs hW => ?_)
              refine lv_aload_n hx hb dPl_request_96 rfl (lv_at hl 2 rfl) ?_
              refine lv_aload hx hb dPl_request_97 (lv_at hl 0 rfl) ?_
              replace h := ob h; obtain ⟨q17, eq17, h⟩ := h
              replace h := ob h; obtain ⟨S16, eS16, h⟩ := h
              refine hq_callv (ce := 1) (sl := 9) (va_runV (As := [.ref S5.1]) (rest := []) ⟨hx, hb, hml, hown, hts⟩ (kPl_accept l D tc b t0 S5.1 S15 _ eS16) (cwV 1 hts GV_Pl_94_Pl rfl rfl rfl hd_Pl_accept_V ⟨Nat.le_of_ble_eq_true rfl, Nat.le_of_ble_eq_true rfl⟩) (hq_preV1 hW eq17 rfl rfl) rfl rfl hl.1 rfl (lv_room (by first | exact Nat.le_of_ble_eq_true rfl | (simp only [List.map, rf_cat]; exact Nat.le_of_ble_eq_true rfl))) dPl_request_99 ⟨Nat.le_of_ble_eq_true rfl, Nat.le_of_ble_eq_true rfl⟩) hW rfl rfl (fun H locs hW => ?_)
              refine lv_iload hx hb dPl_request_102 (lv_at hl 1 rfl) ?_
              exact hq_iret hx hb hr hlocks h (Nat.le_of_ble_eq_true rfl) (Nat.le_of_ble_eq_true rfl) hW dPl_request_104
            · replace h := if_f hc18 h
              refine lv_iconst hx hb dPl_request_51 (v := (-1 : Int32)) rfl ?_
              exact hq_iret hx hb hr hlocks h (Nat.le_of_ble_eq_true rfl) (Nat.le_of_ble_eq_true rfl) hW dPl_request_52
      · replace h := if_f hc21 h
        refine lv_iconst hx hb dPl_request_21 (v := (-1 : Int32)) rfl ?_
        exact hq_iret hx hb hr hlocks h (Nat.le_of_ble_eq_true rfl) (Nat.le_of_ble_eq_true rfl) hW dPl_request_22
def fPl_fault (t0 : Nat) (t1 : Int32) (t2 : Int32) (t3 : Int32) (S : Ws) : Option (Int32 × Ws) :=
  (fPl_isLine t1 S).bind fun (v2, S1) => if v2 = 0 then (bz (0 : Int32)).bind fun z3 => some ((0 : Int32), S1) else (fPl_isWithin t3 (400 : Int32) S1).bind fun (v5, S4) => if v5 = 0 then (bz (0 : Int32)).bind fun z18 => some ((0 : Int32), S4) else (gR S4 t0 [7] 1).bind fun r6 => (r6).bind fun a7 => (aR S4 a7 4 t1).bind fun r8 => (r8).bind fun a9 => (gO S4 a9 [2]).bind fun q12 => (fLi_wayOf a9 t2 S4).bind fun (r11, S10) => (r11).bind fun a13 => (gO S10 a13 [6]).bind fun q16 => (fWa_plantFault a13 S10).bind fun (v15, S14) => (bz v15).bind fun z17 => some (v15, S14)
set_option maxRecDepth 100000 in
set_option maxHeartbeats 4000000 in
theorem kPl_fault (l : Launch) (D : va_G) (tc : Nat → ClassId) (b : Nat) (t0 : Nat) (t1 : Int32) (t2 : Int32) (t3 : Int32) (S Sz : Ws) (rr : Int32) (h : fPl_fault t0 t1 t2 t3 S = some (rr, Sz)) : Met l yPl_fault wsPl_fault { frames := 2, cells := 0, slots := 0, locals := 80 } (va_Pc [.ref t0, .int t1, .int t2, .int t3] (Wp D vwCl (hTy tc) b S)) (va_Qi (fun x (_ : Unit) => x = rr) (fun _ => Wp D vwCl (hTy tc) b Sz) (fun q => b ≤ q)) 0 0 (fun q => b ≤ q) := by
  refine hq_ofW (cc := cPl_fault) (maxL := 4) (ret := (some .boolean)) (by decide) rfl (Nat.le_of_ble_eq_true rfl) fun p e s m args below meth c hx hb hr hts hown hlocks hnm hml H locs ls hl hW => ?_
  have hts : ∀ w ∈ lwG, w.before args s = true := fun w h => hts w (List.mem_cons_of_mem _ h)
  have hown : s.vm.findClass "SerialPlant" = some m.cls := hown
  have hl : lv_has ls 4 [(0, .ref t0), (1, .int t1), (2, .int t2), (3, .int t3)] := hl
  unfold fPl_fault at h
  refine lv_iload_n hx hb dPl_fault_0 rfl (lv_at hl 1 rfl) ?_
  replace h := ob h; obtain ⟨⟨v2, S1⟩, eS1, h⟩ := h
  refine hq_calli (ce := 0) (sl := 0) (va_runS (As := [.int t1]) (rest := []) ⟨hx, hb, hml, hown, hts⟩ (kPl_isLine l D tc b t1 S _ _ eS1) (cwS 1 hts GS_Pl_48 rfl rfl rfl hd_Pl_isLine_S_Pl ⟨Nat.le_of_ble_eq_true rfl, Nat.le_of_ble_eq_true rfl⟩) (hq_preS hW) rfl rfl hl.1 rfl (lv_room (by first | exact Nat.le_of_ble_eq_true rfl | (simp only [List.map, rf_cat]; exact Nat.le_of_ble_eq_true rfl))) dPl_fault_1 ⟨Nat.le_of_ble_eq_true rfl, Nat.le_of_ble_eq_true rfl⟩) hW rfl rfl (fun H locs hW => ?_)
  refine lv_if_eq hx hb dPl_fault_4 (tgt := 17) rfl (fun hc20 => ?_) (fun hc20 => ?_)
  · replace h := if_t hc20 h
    refine lv_iconst hx hb dPl_fault_17 (v := (0 : Int32)) rfl ?_
    replace h := ob h; obtain ⟨z3, ez3, h⟩ := h
    exact hq_zret hx hb hr hlocks (bz_some ez3).2 h (Nat.le_of_ble_eq_true rfl) (Nat.le_of_ble_eq_true rfl) hW dPl_fault_18
  · replace h := if_f hc20 h
    refine lv_iload_n hx hb dPl_fault_7 rfl (lv_at hl 3 rfl) ?_
    refine lv_sipush hx hb dPl_fault_8 (v := (400 : Int32)) rfl ?_
    replace h := ob h; obtain ⟨⟨v5, S4⟩, eS4, h⟩ := h
    refine hq_calli (ce := 0) (sl := 0) (va_runS (As := [.int t3, .int (400 : Int32)]) (rest := []) ⟨hx, hb, hml, hown, hts⟩ (kPl_isWithin l D tc b t3 (400 : Int32) S1 _ _ eS4) (cwS 2 hts GS_Pl_51 rfl rfl rfl hd_Pl_isWithin_S_Pl ⟨Nat.le_of_ble_eq_true rfl, Nat.le_of_ble_eq_true rfl⟩) (hq_preS hW) rfl rfl hl.1 rfl (lv_room (by first | exact Nat.le_of_ble_eq_true rfl | (simp only [List.map, rf_cat]; exact Nat.le_of_ble_eq_true rfl))) dPl_fault_11 ⟨Nat.le_of_ble_eq_true rfl, Nat.le_of_ble_eq_true rfl⟩) hW rfl rfl (fun H locs hW => ?_)
    refine lv_if_ne hx hb dPl_fault_14 (tgt := 19) rfl (fun hc19 => ?_) (fun hc19 => ?_)
    · replace h := if_f hc19 h
      refine lv_aload_n hx hb dPl_fault_19 rfl (lv_at hl 0 rfl) ?_
      replace h := ob h; obtain ⟨r6, er6, h⟩ := h
      refine hq_get hx hb hts hown hW (gR_V er6) (F_Pl_20 hts) dPl_fault_20 ?_
      refine lv_iload_n hx hb dPl_fault_23 rfl (lv_at hl 1 rfl) ?_
      replace h := ob h; obtain ⟨a7, hra7, h⟩ := h
      subst hra7
      replace h := ob h; obtain ⟨r8, er8, h⟩ := h
      refine hq_aald hx hb hW er8 rfl dPl_fault_24 ?_
      refine lv_iload_n hx hb dPl_fault_25 rfl (lv_at hl 2 rfl) ?_
      replace h := ob h; obtain ⟨a9, hra9, h⟩ := h
      subst hra9
      replace h := ob h; obtain ⟨q12, eq12, h⟩ := h
      replace h := ob h; obtain ⟨⟨r11, S10⟩, eS10, h⟩ := h
      refine hq_callq (ce := 0) (sl := 0) (va_runV (As := [.int t2]) (rest := []) ⟨hx, hb, hml, hown, hts⟩ (kLi_wayOf l D tc b a9 t2 S4 _ _ eS10) (cwV 1 hts GV_Pl_98_Li rfl rfl rfl hd_Li_wayOf_V ⟨Nat.le_of_ble_eq_true rfl, Nat.le_of_ble_eq_true rfl⟩) (hq_preV1 hW eq12 rfl rfl) rfl rfl hl.1 rfl (lv_room (by first | exact Nat.le_of_ble_eq_true rfl | (simp only [List.map, rf_cat]; exact Nat.le_of_ble_eq_true rfl))) dPl_fault_26 ⟨Nat.le_of_ble_eq_true rfl, Nat.le_of_ble_eq_true rfl⟩) hW rfl rfl (fun H locs hW => ?_)
      replace h := ob h; obtain ⟨a13, hra13, h⟩ := h
      subst hra13
      replace h := ob h; obtain ⟨q16, eq16, h⟩ := h
      replace h := ob h; obtain ⟨⟨v15, S14⟩, eS14, h⟩ := h
      refine hq_calli (ce := 0) (sl := 0) (va_runV (As := []) (rest := []) ⟨hx, hb, hml, hown, hts⟩ (kWa_plantFault l D tc b a13 S10 _ _ eS14) (cwV 0 hts GV_Pl_102_Wa rfl rfl rfl hd_Wa_plantFault_V ⟨Nat.le_of_ble_eq_true rfl, Nat.le_of_ble_eq_true rfl⟩) (hq_preV1 hW eq16 rfl rfl) rfl rfl hl.1 rfl (lv_room (by first | exact Nat.le_of_ble_eq_true rfl | (simp only [List.map, rf_cat]; exact Nat.le_of_ble_eq_true rfl))) dPl_fault_29 ⟨Nat.le_of_ble_eq_true rfl, Nat.le_of_ble_eq_true rfl⟩) hW rfl rfl (fun H locs hW => ?_)
      replace h := ob h; obtain ⟨z17, ez17, h⟩ := h
      exact hq_zret hx hb hr hlocks (bz_some ez17).2 h (Nat.le_of_ble_eq_true rfl) (Nat.le_of_ble_eq_true rfl) hW dPl_fault_32
    · replace h := if_t hc19 h
      refine lv_iconst hx hb dPl_fault_17 (v := (0 : Int32)) rfl ?_
      replace h := ob h; obtain ⟨z18, ez18, h⟩ := h
      exact hq_zret hx hb hr hlocks (bz_some ez18).2 h (Nat.le_of_ble_eq_true rfl) (Nat.le_of_ble_eq_true rfl) hW dPl_fault_18
def fPl_isOnItsWay_L2 (t0 : Nat) (t1 : Nat) : Int32 × Ws → Option ((Int32 × Ws) ⊕ (Int32 × Ws)) :=
  fun (i1, S2) => if (2 : Int32) ≤ i1 then (bz (0 : Int32)).bind fun z4 => some (.inr ((0 : Int32), S2)) else (gR S2 t0 [7] 1).bind fun r5 => (r5).bind fun a6 => (aR S2 a6 4 i1).bind fun r7 => (r7).bind fun a8 => (gO S2 a8 [2]).bind fun q11 => (fLi_has a8 t1 S2).bind fun (v10, S9) => if v10 = 0 then some (.inl (i1 + 1, S9)) else (bz (1 : Int32)).bind fun z12 => some (.inr ((1 : Int32), S9))
def fPl_isOnItsWay (t0 : Nat) (t1 : Nat) (S : Ws) : Option (Int32 × Ws) :=
  lp (fPl_isOnItsWay_L2 t0 t1) 1000 ((0 : Int32), S)
set_option maxRecDepth 100000 in
set_option maxHeartbeats 4000000 in
theorem kPl_isOnItsWay (l : Launch) (D : va_G) (tc : Nat → ClassId) (b : Nat) (t0 : Nat) (t1 : Nat) (S Sz : Ws) (rr : Int32) (h : fPl_isOnItsWay t0 t1 S = some (rr, Sz)) : Met l yPl_isOnItsWay wsPl_isOnItsWay { frames := 2, cells := 0, slots := 0, locals := 80 } (va_Pc [.ref t0, .ref t1] (Wp D vwCl (hTy tc) b S)) (va_Qi (fun x (_ : Unit) => x = rr) (fun _ => Wp D vwCl (hTy tc) b Sz) (fun q => b ≤ q)) 0 0 (fun q => b ≤ q) := by
  refine hq_ofW (cc := cPl_isOnItsWay) (maxL := 3) (ret := (some .boolean)) (by decide) rfl (Nat.le_of_ble_eq_true rfl) fun p e s m args below meth c hx hb hr hts hown hlocks hnm hml H locs ls hl hW => ?_
  have hts : ∀ w ∈ lwG, w.before args s = true := fun w h => hts w (List.mem_cons_of_mem _ h)
  have hown : s.vm.findClass "SerialPlant" = some m.cls := hown
  have hl : lv_has ls 3 [(0, .ref t0), (1, .ref t1)] := hl
  unfold fPl_isOnItsWay at h
  refine lv_iconst hx hb dPl_isOnItsWay_0 (v := (0 : Int32)) rfl ?_
  refine lv_istore_n (lv' := [(2, .int (0 : Int32)), (0, .ref t0), (1, .ref t1)]) hx hb dPl_isOnItsWay_1 rfl hl (Nat.le_of_ble_eq_true rfl) (by first | rfl | (simp [List.filter, rf_cat] <;> rfl)) (fun ls hl => ?_)
  refine lp_ind (P := fun q' => ∀ (H : Heap) (locs : List Loc) (ls : Array Slot), lv_has ls 3 [(0, .ref t0), (1, .ref t1), (2, .int q'.1)] → Wd D vwCl (hTy tc) b q'.2 s H locs → W p l e { frames := 2, cells := 0, slots := 0, locals := 80 } s m args below meth c H locs 0 0 (MQ below (va_Qi (fun x (_ : Unit) => x = rr) (fun _ => Wp D vwCl (hTy tc) b Sz) (fun q => b ≤ q)) args s 0 0 (fun q => b ≤ q)) (F0 m 2 ls [])) (Q := fun y => y = (rr, Sz)) (fun q' x3 h hin hex => ?_) rfl _ _ h _ _ _ (lv_sub hl [1, 2, 0] rfl) hW
  obtain ⟨i1, S2⟩ := q'
  intro H locs ls hl hW
  unfold fPl_isOnItsWay_L2 at h
  refine lv_iload_n hx hb dPl_isOnItsWay_2 rfl (lv_at hl 2 rfl) ?_
  refine lv_iconst hx hb dPl_isOnItsWay_3 (v := (2 : Int32)) rfl ?_
  refine lv_icmp_ge hx hb dPl_isOnItsWay_4 (tgt := 28) rfl (fun hc14 => ?_) (fun hc14 => ?_)
  · replace h := if_t hc14 h
    refine lv_iconst hx hb dPl_isOnItsWay_28 (v := (0 : Int32)) rfl ?_
    replace h := ob h; obtain ⟨z4, ez4, h⟩ := h
    exact hq_zret hx hb hr hlocks (bz_some ez4).2 (congrArg some (hex _ (Option.some.inj h).symm)) (Nat.le_of_ble_eq_true rfl) (Nat.le_of_ble_eq_true rfl) hW dPl_isOnItsWay_29
  · replace h := if_f hc14 h
    refine lv_aload_n hx hb dPl_isOnItsWay_7 rfl (lv_at hl 0 rfl) ?_
    replace h := ob h; obtain ⟨r5, er5, h⟩ := h
    refine hq_get hx hb hts hown hW (gR_V er5) (F_Pl_20 hts) dPl_isOnItsWay_8 ?_
    refine lv_iload_n hx hb dPl_isOnItsWay_11 rfl (lv_at hl 2 rfl) ?_
    replace h := ob h; obtain ⟨a6, hra6, h⟩ := h
    subst hra6
    replace h := ob h; obtain ⟨r7, er7, h⟩ := h
    refine hq_aald hx hb hW er7 rfl dPl_isOnItsWay_12 ?_
    refine lv_aload_n hx hb dPl_isOnItsWay_13 rfl (lv_at hl 1 rfl) ?_
    replace h := ob h; obtain ⟨a8, hra8, h⟩ := h
    subst hra8
    replace h := ob h; obtain ⟨q11, eq11, h⟩ := h
    replace h := ob h; obtain ⟨⟨v10, S9⟩, eS9, h⟩ := h
    refine hq_calli (ce := 0) (sl := 0) (va_runV (As := [.ref t1]) (rest := []) ⟨hx, hb, hml, hown, hts⟩ (kLi_has l D tc b a8 t1 S2 _ _ eS9) (cwV 1 hts GV_Pl_182_Li rfl rfl rfl hd_Li_has_V ⟨Nat.le_of_ble_eq_true rfl, Nat.le_of_ble_eq_true rfl⟩) (hq_preV1 hW eq11 rfl rfl) rfl rfl hl.1 rfl (lv_room (by first | exact Nat.le_of_ble_eq_true rfl | (simp only [List.map, rf_cat]; exact Nat.le_of_ble_eq_true rfl))) dPl_isOnItsWay_14 ⟨Nat.le_of_ble_eq_true rfl, Nat.le_of_ble_eq_true rfl⟩) hW rfl rfl (fun H locs hW => ?_)
    refine lv_if_eq hx hb dPl_isOnItsWay_17 (tgt := 22) rfl (fun hc13 => ?_) (fun hc13 => ?_)
    · replace h := if_t hc13 h
      refine lv_iinc (k := 2) (v := i1 + 1) (lv' := [(2, .int (i1 + 1)), (0, .ref t0), (1, .ref t1)]) hx hb dPl_isOnItsWay_22 hl rfl rfl (Nat.le_of_ble_eq_true rfl) (by first | rfl | (simp [List.filter, rf_cat] <;> rfl)) (fun ls hl => ?_)
      refine lv_goto hx hb dPl_isOnItsWay_25 (tgt := 2) rfl ?_
      exact hin _ (Option.some.inj h).symm _ _ _ (lv_sub hl [1, 2, 0] rfl) hW
    · replace h := if_f hc13 h
      refine lv_iconst hx hb dPl_isOnItsWay_20 (v := (1 : Int32)) rfl ?_
      replace h := ob h; obtain ⟨z12, ez12, h⟩ := h
      exact hq_zret hx hb hr hlocks (bz_some ez12).2 (congrArg some (hex _ (Option.some.inj h).symm)) (Nat.le_of_ble_eq_true rfl) (Nat.le_of_ble_eq_true rfl) hW dPl_isOnItsWay_21
def fPl_queuePolls_L2 (t0 : Nat) : Int32 × Ws → Option ((Int32 × Ws) ⊕ (Ws)) :=
  fun (i1, S2) => (gI S2 t0 [7] 6).bind fun v5 => if v5 ≤ i1 then some (.inr S2) else (gR S2 t0 [7] 3).bind fun r6 => (r6).bind fun a7 => (aR S2 a7 6 i1).bind fun r8 => oc r8 (some (.inl (i1 + 1, S2))) (fun a9 => (gO S2 t0 [7]).bind fun q12 => (fPl_isOnItsWay t0 a9 S2).bind fun (v11, S10) => if v11 = 0 then (gO S10 t0 [7]).bind fun q15 => (fPl_enqueue t0 a9 S10).bind fun (v14, S13) => some (.inl (i1 + 1, S13)) else some (.inl (i1 + 1, S10)))
def fPl_queuePolls (t0 : Nat) (S : Ws) : Option (Ws) :=
  (lp (fPl_queuePolls_L2 t0) 1000 ((0 : Int32), S)).bind fun S4 => some S4
set_option maxRecDepth 100000 in
set_option maxHeartbeats 4000000 in
theorem kPl_queuePolls (l : Launch) (D : va_G) (tc : Nat → ClassId) (b : Nat) (t0 : Nat) (S Sz : Ws) (h : fPl_queuePolls t0 S = some Sz) : Met l yPl_queuePolls wsPl_queuePolls { frames := 4, cells := 0, slots := 0, locals := 160 } (va_Pc [.ref t0] (Wp D vwCl (hTy tc) b S)) (va_Qv (fun _ : Unit => True) (fun _ => Wp D vwCl (hTy tc) b Sz) (fun q => b ≤ q)) 0 0 (fun q => b ≤ q) := by
  refine hq_ofW (cc := cPl_queuePolls) (maxL := 3) (ret := none) (by decide) rfl (Nat.le_of_ble_eq_true rfl) fun p e s m args below meth c hx hb hr hts hown hlocks hnm hml H locs ls hl hW => ?_
  have hts : ∀ w ∈ lwG, w.before args s = true := fun w h => hts w (List.mem_cons_of_mem _ h)
  have hown : s.vm.findClass "SerialPlant" = some m.cls := hown
  have hl : lv_has ls 3 [(0, .ref t0)] := hl
  unfold fPl_queuePolls at h
  refine lv_iconst hx hb dPl_queuePolls_0 (v := (0 : Int32)) rfl ?_
  refine lv_istore_n (lv' := [(1, .int (0 : Int32)), (0, .ref t0)]) hx hb dPl_queuePolls_1 rfl hl (Nat.le_of_ble_eq_true rfl) (by first | rfl | (simp [List.filter, rf_cat] <;> rfl)) (fun ls hl => ?_)
  replace h := ob h; obtain ⟨S4, eS4, h⟩ := h
  have hX : (fun q' => ∀ (H : Heap) (locs : List Loc) (ls : Array Slot), lv_has ls 3 [] → Wd D vwCl (hTy tc) b q' s H locs → W p l e { frames := 4, cells := 0, slots := 0, locals := 160 } s m args below meth c H locs 0 0 (MQ below (va_Qv (fun _ : Unit => True) (fun _ => Wp D vwCl (hTy tc) b Sz) (fun q => b ≤ q)) args s 0 0 (fun q => b ≤ q)) (F0 m 41 ls [])) S4 := by
    intro H locs ls hl hW
    exact hq_vret hx hb hr hlocks h (Nat.le_of_ble_eq_true rfl) (Nat.le_of_ble_eq_true rfl) hW dPl_queuePolls_41
  refine lp_ind (P := fun q' => ∀ (H : Heap) (locs : List Loc) (ls : Array Slot), lv_has ls 3 [(0, .ref t0), (1, .int q'.1)] → Wd D vwCl (hTy tc) b q'.2 s H locs → W p l e { frames := 4, cells := 0, slots := 0, locals := 160 } s m args below meth c H locs 0 0 (MQ below (va_Qv (fun _ : Unit => True) (fun _ => Wp D vwCl (hTy tc) b Sz) (fun q => b ≤ q)) args s 0 0 (fun q => b ≤ q)) (F0 m 2 ls [])) (Q := fun q' => ∀ (H : Heap) (locs : List Loc) (ls : Array Slot), lv_has ls 3 [] → Wd D vwCl (hTy tc) b q' s H locs → W p l e { frames := 4, cells := 0, slots := 0, locals := 160 } s m args below meth c H locs 0 0 (MQ below (va_Qv (fun _ : Unit => True) (fun _ => Wp D vwCl (hTy tc) b Sz) (fun q => b ≤ q)) args s 0 0 (fun q => b ≤ q)) (F0 m 41 ls [])) (fun q' x3 h hin hex => ?_) hX _ _ eS4 _ _ _ (lv_sub hl [1, 0] rfl) hW
  obtain ⟨i1, S2⟩ := q'
  intro H locs ls hl hW
  unfold fPl_queuePolls_L2 at h
  refine lv_iload_n hx hb dPl_queuePolls_2 rfl (lv_at hl 1 rfl) ?_
  refine lv_aload_n hx hb dPl_queuePolls_3 rfl (lv_at hl 0 rfl) ?_
  replace h := ob h; obtain ⟨v5, ev5, h⟩ := h
  refine hq_get hx hb hts hown hW (gI_V ev5) (F_Pl_82 hts) dPl_queuePolls_4 ?_
  refine lv_icmp_ge hx hb dPl_queuePolls_7 (tgt := 41) rfl (fun hc17 => ?_) (fun hc17 => ?_)
  · replace h := if_t hc17 h
    exact hex _ (Option.some.inj h).symm _ _ _ (lv_sub hl [] rfl) hW
  · replace h := if_f hc17 h
    refine lv_aload_n hx hb dPl_queuePolls_10 rfl (lv_at hl 0 rfl) ?_
    replace h := ob h; obtain ⟨r6, er6, h⟩ := h
    refine hq_get hx hb hts hown hW (gR_V er6) (F_Pl_33 hts) dPl_queuePolls_11 ?_
    refine lv_iload_n hx hb dPl_queuePolls_14 rfl (lv_at hl 1 rfl) ?_
    replace h := ob h; obtain ⟨a7, hra7, h⟩ := h
    subst hra7
    replace h := ob h; obtain ⟨r8, er8, h⟩ := h
    refine hq_aald hx hb hW er8 rfl dPl_queuePolls_15 ?_
    refine hq_astore_n (x := r8) (lv' := [(2, va_rf r8), (0, .ref t0), (1, .int i1)]) hx hb dPl_queuePolls_16 rfl hl (Nat.le_of_ble_eq_true rfl) (by first | rfl | (simp [List.filter, rf_cat] <;> rfl)) (fun ls hl => ?_)
    refine hq_aload_n (x := r8) hx hb dPl_queuePolls_17 rfl (lv_at hl 0 rfl) ?_
    refine hq_ifnull hx hb dPl_queuePolls_18 (tgt := 35) rfl (fun hc => ?_) (fun a9 hc => ?_)
    · subst hc
      replace h := oc_n h
      refine lv_iinc (k := 2) (v := i1 + 1) (lv' := [(1, .int (i1 + 1)), (2, va_rf none), (0, .ref t0)]) hx hb dPl_queuePolls_35 hl rfl rfl (Nat.le_of_ble_eq_true rfl) (by first | rfl | (simp [List.filter, rf_cat] <;> rfl)) (fun ls hl => ?_)
      refine lv_goto hx hb dPl_queuePolls_38 (tgt := 2) rfl ?_
      exact hin _ (Option.some.inj h).symm _ _ _ (lv_sub hl [2, 0] rfl) hW
    · subst hc
      replace h := oc_s h
      refine lv_aload_n hx hb dPl_queuePolls_21 rfl (lv_at hl 1 rfl) ?_
      refine lv_aload_n hx hb dPl_queuePolls_22 rfl (lv_at hl 0 rfl) ?_
      replace h := ob h; obtain ⟨q12, eq12, h⟩ := h
      replace h := ob h; obtain ⟨⟨v11, S10⟩, eS10, h⟩ := h
      refine hq_calli (ce := 0) (sl := 0) (va_runV (As := [.ref a9]) (rest := []) ⟨hx, hb, hml, hown, hts⟩ (kPl_isOnItsWay l D tc b t0 a9 S2 _ _ eS10) (cwV 1 hts GV_Pl_179_Pl rfl rfl rfl hd_Pl_isOnItsWay_V ⟨Nat.le_of_ble_eq_true rfl, Nat.le_of_ble_eq_true rfl⟩) (hq_preV1 hW eq12 rfl rfl) rfl rfl hl.1 rfl (lv_room (by first | exact Nat.le_of_ble_eq_true rfl | (simp only [List.map, rf_cat]; exact Nat.le_of_ble_eq_true rfl))) dPl_queuePolls_23 ⟨Nat.le_of_ble_eq_true rfl, Nat.le_of_ble_eq_true rfl⟩) hW rfl rfl (fun H locs hW => ?_)
      refine lv_if_ne hx hb dPl_queuePolls_26 (tgt := 35) rfl (fun hc16 => ?_) (fun hc16 => ?_)
      · replace h := if_f hc16 h
        refine lv_iinc (k := 2) (v := i1 + 1) (lv' := [(1, .int (i1 + 1)), (2, .ref a9), (0, .ref t0)]) hx hb dPl_queuePolls_35 hl rfl rfl (Nat.le_of_ble_eq_true rfl) (by first | rfl | (simp [List.filter, rf_cat] <;> rfl)) (fun ls hl => ?_)
        refine lv_goto hx hb dPl_queuePolls_38 (tgt := 2) rfl ?_
        exact hin _ (Option.some.inj h).symm _ _ _ (lv_sub hl [2, 0] rfl) hW
      · replace h := if_t hc16 h
        refine lv_aload_n hx hb dPl_queuePolls_29 rfl (lv_at hl 1 rfl) ?_
        refine lv_aload_n hx hb dPl_queuePolls_30 rfl (lv_at hl 0 rfl) ?_
        replace h := ob h; obtain ⟨q15, eq15, h⟩ := h
        replace h := ob h; obtain ⟨⟨v14, S13⟩, eS13, h⟩ := h
        refine hq_calli (ce := 0) (sl := 0) (va_runV (As := [.ref a9]) (rest := []) ⟨hx, hb, hml, hown, hts⟩ (kPl_enqueue l D tc b t0 a9 S10 _ _ eS13) (cwV 1 hts GV_Pl_172_Pl rfl rfl rfl hd_Pl_enqueue_V ⟨Nat.le_of_ble_eq_true rfl, Nat.le_of_ble_eq_true rfl⟩) (hq_preV1 hW eq15 rfl rfl) rfl rfl hl.1 rfl (lv_room (by first | exact Nat.le_of_ble_eq_true rfl | (simp only [List.map, rf_cat]; exact Nat.le_of_ble_eq_true rfl))) dPl_queuePolls_31 ⟨Nat.le_of_ble_eq_true rfl, Nat.le_of_ble_eq_true rfl⟩) hW rfl rfl (fun H locs hW => ?_)
        refine lv_pop hx hb dPl_queuePolls_34 rfl ?_
        refine lv_iinc (k := 2) (v := i1 + 1) (lv' := [(1, .int (i1 + 1)), (2, .ref a9), (0, .ref t0)]) hx hb dPl_queuePolls_35 hl rfl rfl (Nat.le_of_ble_eq_true rfl) (by first | rfl | (simp [List.filter, rf_cat] <;> rfl)) (fun ls hl => ?_)
        refine lv_goto hx hb dPl_queuePolls_38 (tgt := 2) rfl ?_
        exact hin _ (Option.some.inj h).symm _ _ _ (lv_sub hl [2, 0] rfl) hW
def fPl_takeAnswer (t0 : Nat) (t1 : Nat) (S : Ws) : Option (Ws) :=
  (gR S t1 [2] 5).bind fun r1 => oc r1 (some S) (fun a2 => (gI S t1 [2] 8).bind fun v3 => (gI S t0 [7] 7).bind fun v4 => if v3 = v4 then (gO S t1 [2]).bind fun q6 => (fLi_release t1 S).bind fun S5 => (gR S5 t1 [2] 2).bind fun r7 => (r7).bind fun a8 => (gR S5 a8 [6] 0).bind fun r9 => (gI S5 t0 [7] 7).bind fun v10 => (r9).bind fun a11 => (gO S5 a2 [3, 4]).bind fun q13 => (if q13.1 = 3 then fPo_take a2 a11 v10 S5 else fRe_take a2 a11 v10 S5).bind fun S12 => some S12 else some S)
set_option maxRecDepth 100000 in
set_option maxHeartbeats 4000000 in
theorem kPl_takeAnswer (l : Launch) (D : va_G) (tc : Nat → ClassId) (b : Nat) (t0 : Nat) (t1 : Nat) (S Sz : Ws) (h : fPl_takeAnswer t0 t1 S = some Sz) : Met l yPl_takeAnswer wsPl_takeAnswer { frames := 5, cells := 0, slots := 0, locals := 200 } (va_Pc [.ref t0, .ref t1] (Wp D vwCl (hTy tc) b S)) (va_Qv (fun _ : Unit => True) (fun _ => Wp D vwCl (hTy tc) b Sz) (fun q => b ≤ q)) 0 0 (fun q => b ≤ q) := by
  refine hq_ofW (cc := cPl_takeAnswer) (maxL := 3) (ret := none) (by decide) rfl (Nat.le_of_ble_eq_true rfl) fun p e s m args below meth c hx hb hr hts hown hlocks hnm hml H locs ls hl hW => ?_
  have hts : ∀ w ∈ lwG, w.before args s = true := fun w h => hts w (List.mem_cons_of_mem _ h)
  have hown : s.vm.findClass "SerialPlant" = some m.cls := hown
  have hl : lv_has ls 3 [(0, .ref t0), (1, .ref t1)] := hl
  unfold fPl_takeAnswer at h
  refine lv_aload_n hx hb dPl_takeAnswer_0 rfl (lv_at hl 1 rfl) ?_
  replace h := ob h; obtain ⟨r1, er1, h⟩ := h
  refine hq_get hx hb hts hown hW (gR_V er1) (F_Pl_135 hts) dPl_takeAnswer_1 ?_
  refine hq_astore_n (x := r1) (lv' := [(2, va_rf r1), (0, .ref t0), (1, .ref t1)]) hx hb dPl_takeAnswer_4 rfl hl (Nat.le_of_ble_eq_true rfl) (by first | rfl | (simp [List.filter, rf_cat] <;> rfl)) (fun ls hl => ?_)
  refine hq_aload_n (x := r1) hx hb dPl_takeAnswer_5 rfl (lv_at hl 0 rfl) ?_
  refine hq_ifnull hx hb dPl_takeAnswer_6 (tgt := 39) rfl (fun hc => ?_) (fun a2 hc => ?_)
  · subst hc
    replace h := oc_n h
    exact hq_vret hx hb hr hlocks h (Nat.le_of_ble_eq_true rfl) (Nat.le_of_ble_eq_true rfl) hW dPl_takeAnswer_39
  · subst hc
    replace h := oc_s h
    refine lv_aload_n hx hb dPl_takeAnswer_9 rfl (lv_at hl 2 rfl) ?_
    replace h := ob h; obtain ⟨v3, ev3, h⟩ := h
    refine hq_get hx hb hts hown hW (gI_V ev3) (F_Pl_203 hts) dPl_takeAnswer_10 ?_
    refine lv_aload_n hx hb dPl_takeAnswer_13 rfl (lv_at hl 1 rfl) ?_
    replace h := ob h; obtain ⟨v4, ev4, h⟩ := h
    refine hq_get hx hb hts hown hW (gI_V ev4) (F_Pl_107 hts) dPl_takeAnswer_14 ?_
    refine lv_icmp_ne hx hb dPl_takeAnswer_17 (tgt := 39) rfl (fun hc15 => ?_) (fun hc15 => ?_)
    · replace h := if_f hc15 h
      exact hq_vret hx hb hr hlocks h (Nat.le_of_ble_eq_true rfl) (Nat.le_of_ble_eq_true rfl) hW dPl_takeAnswer_39
    · replace h := if_t hc15 h
      refine lv_aload_n hx hb dPl_takeAnswer_20 rfl (lv_at hl 2 rfl) ?_
      replace h := ob h; obtain ⟨q6, eq6, h⟩ := h
      replace h := ob h; obtain ⟨S5, eS5, h⟩ := h
      refine hq_callv (ce := 0) (sl := 0) (va_runV (As := []) (rest := []) ⟨hx, hb, hml, hown, hts⟩ (kLi_release l D tc b t1 S _ eS5) (cwV 0 hts GV_Pl_206_Li rfl rfl rfl hd_Li_release_V ⟨Nat.le_of_ble_eq_true rfl, Nat.le_of_ble_eq_true rfl⟩) (hq_preV1 hW eq6 rfl rfl) rfl rfl hl.1 rfl (lv_room (by first | exact Nat.le_of_ble_eq_true rfl | (simp only [List.map, rf_cat]; exact Nat.le_of_ble_eq_true rfl))) dPl_takeAnswer_21 ⟨Nat.le_of_ble_eq_true rfl, Nat.le_of_ble_eq_true rfl⟩) hW rfl rfl (fun H locs hW => ?_)
      refine lv_aload_n hx hb dPl_takeAnswer_24 rfl (lv_at hl 0 rfl) ?_
      refine lv_aload_n hx hb dPl_takeAnswer_25 rfl (lv_at hl 2 rfl) ?_
      replace h := ob h; obtain ⟨r7, er7, h⟩ := h
      refine hq_get hx hb hts hown hW (gR_V er7) (F_Pl_209 hts) dPl_takeAnswer_26 ?_
      replace h := ob h; obtain ⟨a8, hra8, h⟩ := h
      subst hra8
      replace h := ob h; obtain ⟨r9, er9, h⟩ := h
      refine hq_get hx hb hts hown hW (gR_V er9) (F_Pl_144 hts) dPl_takeAnswer_29 ?_
      refine lv_aload_n hx hb dPl_takeAnswer_32 rfl (lv_at hl 1 rfl) ?_
      replace h := ob h; obtain ⟨v10, ev10, h⟩ := h
      refine hq_get hx hb hts hown hW (gI_V ev10) (F_Pl_107 hts) dPl_takeAnswer_33 ?_
      replace h := ob h; obtain ⟨a11, hra11, h⟩ := h
      subst hra11
      replace h := ob h; obtain ⟨q13, eq13, h⟩ := h
      replace h := ob h; obtain ⟨S12, eS12, h⟩ := h
      have hR14 : va_Run p l e { frames := 5, cells := 0, slots := 0, locals := 200 } s m args below meth c H locs 0 0 0 0 (F0 m 36 ls [.int v10, .ref a11, .ref a2]) [] (va_Qv (fun _ : Unit => True) (fun _ => Wp D vwCl (hTy tc) b S12) (fun q => b ≤ q) (.ref a2 :: [.ref a11, .int v10]).toArray) (fun q => b ≤ q) := by
        rcases mem2 (gO_some eq13).2 with hq | hq
        · exact va_runU (As := [.ref a11, .int v10]) (rest := []) ⟨hx, hb, hml, hown, hts⟩ (kPo_take l D tc b a2 a11 v10 S5 _ (if_t hq eS12)) (va_cwA 2 hts GU_Pl_213_Po rfl rfl rfl hW.nw.2.1.1 hd_Po_take_A ⟨Nat.le_of_ble_eq_true rfl, Nat.le_of_ble_eq_true rfl⟩) (hq_preV hW (gO_some eq13).1 (by rw [hq]; rfl) rfl) rfl rfl hl.1 rfl (lv_room (by first | exact Nat.le_of_ble_eq_true rfl | (simp only [List.map, rf_cat]; exact Nat.le_of_ble_eq_true rfl))) dPl_takeAnswer_36 ⟨Nat.le_of_ble_eq_true rfl, Nat.le_of_ble_eq_true rfl⟩
        · exact va_runU (As := [.ref a11, .int v10]) (rest := []) ⟨hx, hb, hml, hown, hts⟩ (kRe_take l D tc b a2 a11 v10 S5 _ (if_f (by rw [hq]; decide) eS12)) (va_cwA 2 hts GU_Pl_213_Re rfl rfl rfl hW.nw.2.1.1 hd_Re_take_A ⟨Nat.le_of_ble_eq_true rfl, Nat.le_of_ble_eq_true rfl⟩) (hq_preV hW (gO_some eq13).1 (by rw [hq]; rfl) rfl) rfl rfl hl.1 rfl (lv_room (by first | exact Nat.le_of_ble_eq_true rfl | (simp only [List.map, rf_cat]; exact Nat.le_of_ble_eq_true rfl))) dPl_takeAnswer_36 ⟨Nat.le_of_ble_eq_true rfl, Nat.le_of_ble_eq_true rfl⟩
      refine hq_callv (ce := 0) (sl := 0) (hR14) hW rfl rfl (fun H locs hW => ?_)
      exact hq_vret hx hb hr hlocks h (Nat.le_of_ble_eq_true rfl) (Nat.le_of_ble_eq_true rfl) hW dPl_takeAnswer_39
def fPl_deliver_L5 (t0 : Nat) (t1 : Nat) (t2 : Nat) : Option Nat × Int32 × Ws → Option ((Option Nat × Int32 × Ws) ⊕ (Option Nat × Ws)) :=
  fun (r1, i2, S3) => if (6 : Int32) ≤ i2 then some (.inr (r1, S3)) else (gR S3 t0 [7] 0).bind fun r7 => (r7).bind fun a8 => (aR S3 a8 3 i2).bind fun r9 => (r9).bind fun a10 => (gI S3 a10 [5] 5).bind fun v11 => (gI S3 t1 [2] 0).bind fun v12 => if v11 = v12 then (gO S3 a10 [5]).bind fun q15 => (fSl_isMeantBy a10 t2 S3).bind fun (v14, S13) => if v14 = 0 then some (.inl (r1, i2 + 1, S13)) else (gO S13 a10 [5]).bind fun q18 => (fSl_obey a10 t2 S13).bind fun (v17, S16) => if v17 = 0 then some (.inl (r1, i2 + 1, S16)) else some (.inl ((some a10), i2 + 1, S16)) else some (.inl (r1, i2 + 1, S3))
def fPl_deliver (t0 : Nat) (t1 : Nat) (t2 : Nat) (S : Ws) : Option (Option Nat × Ws) :=
  (lp (fPl_deliver_L5 t0 t1 t2) 1000 (none, (0 : Int32), S)).bind fun (r5, S6) => some (r5, S6)
set_option maxRecDepth 100000 in
set_option maxHeartbeats 4000000 in
theorem kPl_deliver (l : Launch) (D : va_G) (tc : Nat → ClassId) (b : Nat) (t0 : Nat) (t1 : Nat) (t2 : Nat) (S Sz : Ws) (rr : Option Nat) (h : fPl_deliver t0 t1 t2 S = some (rr, Sz)) : Met l yPl_deliver wsPl_deliver { frames := 4, cells := 0, slots := 0, locals := 160 } (va_Pc [.ref t0, .ref t1, .ref t2] (Wp D vwCl (hTy tc) b S)) (va_Qq (fun x (_ : Unit) => x = rr) (fun _ => Wp D vwCl (hTy tc) b Sz) (fun q => b ≤ q)) 0 0 (fun q => b ≤ q) := by
  refine hq_ofW (cc := cPl_deliver) (maxL := 6) (ret := (some (.object "SerialPlant$Slave"))) (by decide) rfl (Nat.le_of_ble_eq_true rfl) fun p e s m args below meth c hx hb hr hts hown hlocks hnm hml H locs ls hl hW => ?_
  have hts : ∀ w ∈ lwG, w.before args s = true := fun w h => hts w (List.mem_cons_of_mem _ h)
  have hown : s.vm.findClass "SerialPlant" = some m.cls := hown
  have hl : lv_has ls 6 [(0, .ref t0), (1, .ref t1), (2, .ref t2)] := hl
  unfold fPl_deliver at h
  refine lv_null hx hb dPl_deliver_0 ?_
  refine hq_astore_n (x := none) (lv' := [(3, va_rf none), (0, .ref t0), (1, .ref t1), (2, .ref t2)]) hx hb dPl_deliver_1 rfl hl (Nat.le_of_ble_eq_true rfl) (by first | rfl | (simp [List.filter, rf_cat] <;> rfl)) (fun ls hl => ?_)
  refine lv_iconst hx hb dPl_deliver_2 (v := (0 : Int32)) rfl ?_
  refine lv_istore (lv' := [(4, .int (0 : Int32)), (3, va_rf none), (0, .ref t0), (1, .ref t1), (2, .ref t2)]) hx hb dPl_deliver_3 hl (Nat.le_of_ble_eq_true rfl) (by first | rfl | (simp [List.filter, rf_cat] <;> rfl)) (fun ls hl => ?_)
  replace h := ob h; obtain ⟨q23, eq23, h⟩ := h
  have hX : (fun q' => ∀ (H : Heap) (locs : List Loc) (ls : Array Slot), lv_has ls 6 [(3, va_rf q'.1)] → Wd D vwCl (hTy tc) b q'.2 s H locs → W p l e { frames := 4, cells := 0, slots := 0, locals := 160 } s m args below meth c H locs 0 0 (MQ below (va_Qq (fun x (_ : Unit) => x = rr) (fun _ => Wp D vwCl (hTy tc) b Sz) (fun q => b ≤ q)) args s 0 0 (fun q => b ≤ q)) (F0 m 60 ls [])) q23 := by
    obtain ⟨r5, S6⟩ := q23
    intro H locs ls hl hW
    refine hq_aload_n (x := r5) hx hb dPl_deliver_60 rfl (lv_at hl 0 rfl) ?_
    exact hq_aret (v := r5) hx hb hr hlocks (by first | exact Or.inl ⟨_, rfl⟩ | exact Or.inr ⟨_, rfl⟩) h (Nat.le_of_ble_eq_true rfl) (Nat.le_of_ble_eq_true rfl) hW dPl_deliver_61
  refine lp_ind (P := fun q' => ∀ (H : Heap) (locs : List Loc) (ls : Array Slot), lv_has ls 6 [(0, .ref t0), (1, .ref t1), (2, .ref t2), (3, va_rf q'.1), (4, .int q'.2.1)] → Wd D vwCl (hTy tc) b q'.2.2 s H locs → W p l e { frames := 4, cells := 0, slots := 0, locals := 160 } s m args below meth c H locs 0 0 (MQ below (va_Qq (fun x (_ : Unit) => x = rr) (fun _ => Wp D vwCl (hTy tc) b Sz) (fun q => b ≤ q)) args s 0 0 (fun q => b ≤ q)) (F0 m 5 ls [])) (Q := fun q' => ∀ (H : Heap) (locs : List Loc) (ls : Array Slot), lv_has ls 6 [(3, va_rf q'.1)] → Wd D vwCl (hTy tc) b q'.2 s H locs → W p l e { frames := 4, cells := 0, slots := 0, locals := 160 } s m args below meth c H locs 0 0 (MQ below (va_Qq (fun x (_ : Unit) => x = rr) (fun _ => Wp D vwCl (hTy tc) b Sz) (fun q => b ≤ q)) args s 0 0 (fun q => b ≤ q)) (F0 m 60 ls [])) (fun q' x4 h hin hex => ?_) hX _ _ eq23 _ _ _ (lv_sub hl [2, 3, 4, 1, 0] rfl) hW
  obtain ⟨r1, i2, S3⟩ := q'
  intro H locs ls hl hW
  unfold fPl_deliver_L5 at h
  refine lv_iload hx hb dPl_deliver_5 (lv_at hl 4 rfl) ?_
  refine lv_bipush hx hb dPl_deliver_7 (v := (6 : Int32)) rfl ?_
  refine lv_icmp_ge hx hb dPl_deliver_9 (tgt := 60) rfl (fun hc22 => ?_) (fun hc22 => ?_)
  · replace h := if_t hc22 h
    exact hex _ (Option.some.inj h).symm _ _ _ (lv_sub hl [3] rfl) hW
  · replace h := if_f hc22 h
    refine lv_aload_n hx hb dPl_deliver_12 rfl (lv_at hl 0 rfl) ?_
    replace h := ob h; obtain ⟨r7, er7, h⟩ := h
    refine hq_get hx hb hts hown hW (gR_V er7) (F_Pl_11 hts) dPl_deliver_13 ?_
    refine lv_iload hx hb dPl_deliver_16 (lv_at hl 4 rfl) ?_
    replace h := ob h; obtain ⟨a8, hra8, h⟩ := h
    subst hra8
    replace h := ob h; obtain ⟨r9, er9, h⟩ := h
    refine hq_aald hx hb hW er9 rfl dPl_deliver_18 ?_
    refine hq_astore (x := r9) (lv' := [(5, va_rf r9), (0, .ref t0), (1, .ref t1), (2, .ref t2), (3, va_rf r1), (4, .int i2)]) hx hb dPl_deliver_19 hl (Nat.le_of_ble_eq_true rfl) (by first | rfl | (simp [List.filter, rf_cat] <;> rfl)) (fun ls hl => ?_)
    refine hq_aload (x := r9) hx hb dPl_deliver_21 (lv_at hl 0 rfl) ?_
    replace h := ob h; obtain ⟨a10, hra10, h⟩ := h
    subst hra10
    replace h := ob h; obtain ⟨v11, ev11, h⟩ := h
    refine hq_get hx hb hts hown hW (gI_V ev11) (F_Pl_59 hts) dPl_deliver_23 ?_
    refine lv_aload_n hx hb dPl_deliver_26 rfl (lv_at hl 2 rfl) ?_
    replace h := ob h; obtain ⟨v12, ev12, h⟩ := h
    refine hq_get hx hb hts hown hW (gI_V ev12) (F_Pl_237 hts) dPl_deliver_27 ?_
    refine lv_icmp_ne hx hb dPl_deliver_30 (tgt := 54) rfl (fun hc21 => ?_) (fun hc21 => ?_)
    · replace h := if_f hc21 h
      refine lv_iinc (k := 5) (v := i2 + 1) (lv' := [(4, .int (i2 + 1)), (5, .ref a10), (0, .ref t0), (1, .ref t1), (2, .ref t2), (3, va_rf r1)]) hx hb dPl_deliver_54 hl rfl rfl (Nat.le_of_ble_eq_true rfl) (by first | rfl | (simp [List.filter, rf_cat] <;> rfl)) (fun ls hl => ?_)
      refine lv_goto hx hb dPl_deliver_57 (tgt := 5) rfl ?_
      exact hin _ (Option.some.inj h).symm _ _ _ (lv_sub hl [2, 3, 4, 5, 0] rfl) hW
    · replace h := if_t hc21 h
      refine lv_aload hx hb dPl_deliver_33 (lv_at hl 0 rfl) ?_
      refine lv_aload_n hx hb dPl_deliver_35 rfl (lv_at hl 3 rfl) ?_
      replace h := ob h; obtain ⟨q15, eq15, h⟩ := h
      replace h := ob h; obtain ⟨⟨v14, S13⟩, eS13, h⟩ := h
      refine hq_calli (ce := 0) (sl := 0) (va_runV (As := [.ref t2]) (rest := []) ⟨hx, hb, hml, hown, hts⟩ (kSl_isMeantBy l D tc b a10 t2 S3 _ _ eS13) (cwV 1 hts GV_Pl_238_Sl rfl rfl rfl hd_Sl_isMeantBy_V ⟨Nat.le_of_ble_eq_true rfl, Nat.le_of_ble_eq_true rfl⟩) (hq_preV1 hW eq15 rfl rfl) rfl rfl hl.1 rfl (lv_room (by first | exact Nat.le_of_ble_eq_true rfl | (simp only [List.map, rf_cat]; exact Nat.le_of_ble_eq_true rfl))) dPl_deliver_36 ⟨Nat.le_of_ble_eq_true rfl, Nat.le_of_ble_eq_true rfl⟩) hW rfl rfl (fun H locs hW => ?_)
      refine lv_if_eq hx hb dPl_deliver_39 (tgt := 54) rfl (fun hc20 => ?_) (fun hc20 => ?_)
      · replace h := if_t hc20 h
        refine lv_iinc (k := 5) (v := i2 + 1) (lv' := [(4, .int (i2 + 1)), (5, .ref a10), (0, .ref t0), (1, .ref t1), (2, .ref t2), (3, va_rf r1)]) hx hb dPl_deliver_54 hl rfl rfl (Nat.le_of_ble_eq_true rfl) (by first | rfl | (simp [List.filter, rf_cat] <;> rfl)) (fun ls hl => ?_)
        refine lv_goto hx hb dPl_deliver_57 (tgt := 5) rfl ?_
        exact hin _ (Option.some.inj h).symm _ _ _ (lv_sub hl [2, 3, 4, 5, 0] rfl) hW
      · replace h := if_f hc20 h
        refine lv_aload hx hb dPl_deliver_42 (lv_at hl 0 rfl) ?_
        refine lv_aload_n hx hb dPl_deliver_44 rfl (lv_at hl 3 rfl) ?_
        replace h := ob h; obtain ⟨q18, eq18, h⟩ := h
        replace h := ob h; obtain ⟨⟨v17, S16⟩, eS16, h⟩ := h
        refine hq_calli (ce := 0) (sl := 0) (va_runV (As := [.ref t2]) (rest := []) ⟨hx, hb, hml, hown, hts⟩ (kSl_obey l D tc b a10 t2 S13 _ _ eS16) (cwV 1 hts GV_Pl_241_Sl rfl rfl rfl hd_Sl_obey_V ⟨Nat.le_of_ble_eq_true rfl, Nat.le_of_ble_eq_true rfl⟩) (hq_preV1 hW eq18 rfl rfl) rfl rfl hl.1 rfl (lv_room (by first | exact Nat.le_of_ble_eq_true rfl | (simp only [List.map, rf_cat]; exact Nat.le_of_ble_eq_true rfl))) dPl_deliver_45 ⟨Nat.le_of_ble_eq_true rfl, Nat.le_of_ble_eq_true rfl⟩) hW rfl rfl (fun H locs hW => ?_)
        refine lv_if_eq hx hb dPl_deliver_48 (tgt := 54) rfl (fun hc19 => ?_) (fun hc19 => ?_)
        · replace h := if_t hc19 h
          refine lv_iinc (k := 5) (v := i2 + 1) (lv' := [(4, .int (i2 + 1)), (5, .ref a10), (0, .ref t0), (1, .ref t1), (2, .ref t2), (3, va_rf r1)]) hx hb dPl_deliver_54 hl rfl rfl (Nat.le_of_ble_eq_true rfl) (by first | rfl | (simp [List.filter, rf_cat] <;> rfl)) (fun ls hl => ?_)
          refine lv_goto hx hb dPl_deliver_57 (tgt := 5) rfl ?_
          exact hin _ (Option.some.inj h).symm _ _ _ (lv_sub hl [2, 3, 4, 5, 0] rfl) hW
        · replace h := if_f hc19 h
          refine lv_aload hx hb dPl_deliver_51 (lv_at hl 0 rfl) ?_
          refine lv_astore_n (lv' := [(3, .ref a10), (5, .ref a10), (0, .ref t0), (1, .ref t1), (2, .ref t2), (4, .int i2)]) hx hb dPl_deliver_53 rfl hl (Nat.le_of_ble_eq_true rfl) (by first | rfl | (simp [List.filter, rf_cat] <;> rfl)) (fun ls hl => ?_)
          refine lv_iinc (k := 5) (v := i2 + 1) (lv' := [(4, .int (i2 + 1)), (3, .ref a10), (5, .ref a10), (0, .ref t0), (1, .ref t1), (2, .ref t2)]) hx hb dPl_deliver_54 hl rfl rfl (Nat.le_of_ble_eq_true rfl) (by first | rfl | (simp [List.filter, rf_cat] <;> rfl)) (fun ls hl => ?_)
          refine lv_goto hx hb dPl_deliver_57 (tgt := 5) rfl ?_
          exact hin _ (Option.some.inj h).symm _ _ _ (lv_sub hl [3, 4, 5, 1, 0] rfl) hW
def fPl_send (t0 : Nat) (t1 : Nat) (S : Ws) : Option (Ws) :=
  (gR S t1 [2] 5).bind fun r1 => oc r1 (some S) (fun a2 => (gI S t0 [7] 7).bind fun v3 => (gO S t1 [2]).bind fun q5 => (fLi_markSending t1 v3 S).bind fun S4 => (gR S4 t1 [2] 1).bind fun r6 => (r6).bind fun a7 => (gR S4 a7 [6] 0).bind fun r8 => (r8).bind fun a9 => (gO S4 a2 [3, 4]).bind fun q11 => (fJo_writeTo a2 a9 S4).bind fun S10 => (gR S10 t1 [2] 1).bind fun r13 => (r13).bind fun a14 => (gO S10 a14 [6]).bind fun q17 => (fWa_spendFault a14 S10).bind fun (v16, S15) => if v16 = 0 then (gO S15 t0 [7]).bind fun q20 => (fPl_deliver t0 t1 a2 S15).bind fun (r19, S18) => oc r19 (some S18) (fun a21 => (gR S18 t1 [2] 1).bind fun r22 => (r22).bind fun a23 => (gR S18 a23 [6] 0).bind fun r24 => (gR S18 t1 [2] 2).bind fun r25 => (r25).bind fun a26 => (gR S18 a26 [6] 0).bind fun r27 => (r24).bind fun a28 => (r27).bind fun a29 => (gO S18 a21 [5]).bind fun q31 => (fSl_writeAnswer a21 a2 a28 a29 S18).bind fun S30 => (gR S30 t1 [2] 2).bind fun r32 => (r32).bind fun a33 => (gO S30 a33 [6]).bind fun q36 => (fWa_spendFault a33 S30).bind fun (v35, S34) => if v35 = 0 then (gI S34 a21 [5] 6).bind fun v37 => if (3 : Int32) ≤ v37 then some S34 else (gI S34 t0 [7] 7).bind fun v38 => (gI S34 a21 [5] 6).bind fun v39 => (pV S34 t1 [2] 8 (.int (v38 + v39))).bind fun S40 => some S40 else some S34) else some S15)
set_option maxRecDepth 100000 in
set_option maxHeartbeats 4000000 in
theorem kPl_send (l : Launch) (D : va_G) (tc : Nat → ClassId) (b : Nat) (t0 : Nat) (t1 : Nat) (S Sz : Ws) (h : fPl_send t0 t1 S = some Sz) : Met l yPl_send wsPl_send { frames := 5, cells := 0, slots := 0, locals := 200 } (va_Pc [.ref t0, .ref t1] (Wp D vwCl (hTy tc) b S)) (va_Qv (fun _ : Unit => True) (fun _ => Wp D vwCl (hTy tc) b Sz) (fun q => b ≤ q)) 0 0 (fun q => b ≤ q) := by
  refine hq_ofW (cc := cPl_send) (maxL := 5) (ret := none) (by decide) rfl (Nat.le_of_ble_eq_true rfl) fun p e s m args below meth c hx hb hr hts hown hlocks hnm hml H locs ls hl hW => ?_
  have hts : ∀ w ∈ lwG, w.before args s = true := fun w h => hts w (List.mem_cons_of_mem _ h)
  have hown : s.vm.findClass "SerialPlant" = some m.cls := hown
  have hl : lv_has ls 5 [(0, .ref t0), (1, .ref t1)] := hl
  unfold fPl_send at h
  refine lv_aload_n hx hb dPl_send_0 rfl (lv_at hl 1 rfl) ?_
  replace h := ob h; obtain ⟨r1, er1, h⟩ := h
  refine hq_get hx hb hts hown hW (gR_V er1) (F_Pl_135 hts) dPl_send_1 ?_
  refine hq_astore_n (x := r1) (lv' := [(2, va_rf r1), (0, .ref t0), (1, .ref t1)]) hx hb dPl_send_4 rfl hl (Nat.le_of_ble_eq_true rfl) (by first | rfl | (simp [List.filter, rf_cat] <;> rfl)) (fun ls hl => ?_)
  refine hq_aload_n (x := r1) hx hb dPl_send_5 rfl (lv_at hl 0 rfl) ?_
  refine hq_ifnonnull hx hb dPl_send_6 (tgt := 10) rfl (fun hc => ?_) (fun a2 hc => ?_)
  · subst hc
    replace h := oc_n h
    exact hq_vret hx hb hr hlocks h (Nat.le_of_ble_eq_true rfl) (Nat.le_of_ble_eq_true rfl) hW dPl_send_9
  · subst hc
    replace h := oc_s h
    refine lv_aload_n hx hb dPl_send_10 rfl (lv_at hl 2 rfl) ?_
    refine lv_aload_n hx hb dPl_send_11 rfl (lv_at hl 1 rfl) ?_
    replace h := ob h; obtain ⟨v3, ev3, h⟩ := h
    refine hq_get hx hb hts hown hW (gI_V ev3) (F_Pl_107 hts) dPl_send_12 ?_
    replace h := ob h; obtain ⟨q5, eq5, h⟩ := h
    replace h := ob h; obtain ⟨S4, eS4, h⟩ := h
    refine hq_callv (ce := 0) (sl := 0) (va_runV (As := [.int v3]) (rest := []) ⟨hx, hb, hml, hown, hts⟩ (kLi_markSending l D tc b t1 v3 S _ eS4) (cwV 1 hts GV_Pl_217_Li rfl rfl rfl hd_Li_markSending_V ⟨Nat.le_of_ble_eq_true rfl, Nat.le_of_ble_eq_true rfl⟩) (hq_preV1 hW eq5 rfl rfl) rfl rfl hl.1 rfl (lv_room (by first | exact Nat.le_of_ble_eq_true rfl | (simp only [List.map, rf_cat]; exact Nat.le_of_ble_eq_true rfl))) dPl_send_15 ⟨Nat.le_of_ble_eq_true rfl, Nat.le_of_ble_eq_true rfl⟩) hW rfl rfl (fun H locs hW => ?_)
    refine lv_aload_n hx hb dPl_send_18 rfl (lv_at hl 0 rfl) ?_
    refine lv_aload_n hx hb dPl_send_19 rfl (lv_at hl 2 rfl) ?_
    replace h := ob h; obtain ⟨r6, er6, h⟩ := h
    refine hq_get hx hb hts hown hW (gR_V er6) (F_Pl_220 hts) dPl_send_20 ?_
    replace h := ob h; obtain ⟨a7, hra7, h⟩ := h
    subst hra7
    replace h := ob h; obtain ⟨r8, er8, h⟩ := h
    refine hq_get hx hb hts hown hW (gR_V er8) (F_Pl_144 hts) dPl_send_23 ?_
    replace h := ob h; obtain ⟨a9, hra9, h⟩ := h
    subst hra9
    replace h := ob h; obtain ⟨q11, eq11, h⟩ := h
    replace h := ob h; obtain ⟨S10, eS10, h⟩ := h
    have hR12 : va_Run p l e { frames := 5, cells := 0, slots := 0, locals := 200 } s m args below meth c H locs 0 0 0 0 (F0 m 26 ls [.ref a9, .ref a2]) [] (va_Qv (fun _ : Unit => True) (fun _ => Wp D vwCl (hTy tc) b S10) (fun q => b ≤ q) (.ref a2 :: [.ref a9]).toArray) (fun q => b ≤ q) := by
      rcases mem2 (gO_some eq11).2 with hq | hq
      · exact va_runU (As := [.ref a9]) (rest := []) ⟨hx, hb, hml, hown, hts⟩ (kJo_writeTo l D tc b a2 a9 S4 _ eS10) (va_cwU 1 hts GU_Pl_222_Po rfl rfl rfl rfl hd_Jo_writeTo_U ⟨Nat.le_of_ble_eq_true rfl, Nat.le_of_ble_eq_true rfl⟩) (hq_preV hW (gO_some eq11).1 (by rw [hq]; rfl) rfl) rfl rfl hl.1 rfl (lv_room (by first | exact Nat.le_of_ble_eq_true rfl | (simp only [List.map, rf_cat]; exact Nat.le_of_ble_eq_true rfl))) dPl_send_26 ⟨Nat.le_of_ble_eq_true rfl, Nat.le_of_ble_eq_true rfl⟩
      · exact va_runU (As := [.ref a9]) (rest := []) ⟨hx, hb, hml, hown, hts⟩ (kJo_writeTo l D tc b a2 a9 S4 _ eS10) (va_cwU 1 hts GU_Pl_222_Re rfl rfl rfl rfl hd_Jo_writeTo_U ⟨Nat.le_of_ble_eq_true rfl, Nat.le_of_ble_eq_true rfl⟩) (hq_preV hW (gO_some eq11).1 (by rw [hq]; rfl) rfl) rfl rfl hl.1 rfl (lv_room (by first | exact Nat.le_of_ble_eq_true rfl | (simp only [List.map, rf_cat]; exact Nat.le_of_ble_eq_true rfl))) dPl_send_26 ⟨Nat.le_of_ble_eq_true rfl, Nat.le_of_ble_eq_true rfl⟩
    refine hq_callv (ce := 0) (sl := 0) (hR12) hW rfl rfl (fun H locs hW => ?_)
    refine lv_aload_n hx hb dPl_send_29 rfl (lv_at hl 2 rfl) ?_
    replace h := ob h; obtain ⟨r13, er13, h⟩ := h
    refine hq_get hx hb hts hown hW (gR_V er13) (F_Pl_220 hts) dPl_send_30 ?_
    replace h := ob h; obtain ⟨a14, hra14, h⟩ := h
    subst hra14
    replace h := ob h; obtain ⟨q17, eq17, h⟩ := h
    replace h := ob h; obtain ⟨⟨v16, S15⟩, eS15, h⟩ := h
    refine hq_calli (ce := 0) (sl := 0) (va_runV (As := []) (rest := []) ⟨hx, hb, hml, hown, hts⟩ (kWa_spendFault l D tc b a14 S10 _ _ eS15) (cwV 0 hts GV_Pl_226_Wa rfl rfl rfl hd_Wa_spendFault_V ⟨Nat.le_of_ble_eq_true rfl, Nat.le_of_ble_eq_true rfl⟩) (hq_preV1 hW eq17 rfl rfl) rfl rfl hl.1 rfl (lv_room (by first | exact Nat.le_of_ble_eq_true rfl | (simp only [List.map, rf_cat]; exact Nat.le_of_ble_eq_true rfl))) dPl_send_33 ⟨Nat.le_of_ble_eq_true rfl, Nat.le_of_ble_eq_true rfl⟩) hW rfl rfl (fun H locs hW => ?_)
    refine lv_if_eq hx hb dPl_send_36 (tgt := 40) rfl (fun hc43 => ?_) (fun hc43 => ?_)
    · replace h := if_t hc43 h
      refine lv_aload_n hx hb dPl_send_40 rfl (lv_at hl 1 rfl) ?_
      refine lv_aload_n hx hb dPl_send_41 rfl (lv_at hl 2 rfl) ?_
      refine lv_aload_n hx hb dPl_send_42 rfl (lv_at hl 0 rfl) ?_
      replace h := ob h; obtain ⟨q20, eq20, h⟩ := h
      replace h := ob h; obtain ⟨⟨r19, S18⟩, eS18, h⟩ := h
      refine hq_callq (ce := 0) (sl := 0) (va_runV (As := [.ref t1, .ref a2]) (rest := []) ⟨hx, hb, hml, hown, hts⟩ (kPl_deliver l D tc b t0 t1 a2 S15 _ _ eS18) (cwV 2 hts GV_Pl_229_Pl rfl rfl rfl hd_Pl_deliver_V ⟨Nat.le_of_ble_eq_true rfl, Nat.le_of_ble_eq_true rfl⟩) (hq_preV1 hW eq20 rfl rfl) rfl rfl hl.1 rfl (lv_room (by first | exact Nat.le_of_ble_eq_true rfl | (simp only [List.map, rf_cat]; exact Nat.le_of_ble_eq_true rfl))) dPl_send_43 ⟨Nat.le_of_ble_eq_true rfl, Nat.le_of_ble_eq_true rfl⟩) hW rfl rfl (fun H locs hW => ?_)
      refine hq_astore_n (x := r19) (lv' := [(3, va_rf r19), (2, .ref a2), (0, .ref t0), (1, .ref t1)]) hx hb dPl_send_46 rfl hl (Nat.le_of_ble_eq_true rfl) (by first | rfl | (simp [List.filter, rf_cat] <;> rfl)) (fun ls hl => ?_)
      refine hq_aload_n (x := r19) hx hb dPl_send_47 rfl (lv_at hl 0 rfl) ?_
      refine hq_ifnonnull hx hb dPl_send_48 (tgt := 52) rfl (fun hc => ?_) (fun a21 hc => ?_)
      · subst hc
        replace h := oc_n h
        exact hq_vret hx hb hr hlocks h (Nat.le_of_ble_eq_true rfl) (Nat.le_of_ble_eq_true rfl) hW dPl_send_51
      · subst hc
        replace h := oc_s h
        refine lv_aload_n hx hb dPl_send_52 rfl (lv_at hl 0 rfl) ?_
        refine lv_aload_n hx hb dPl_send_53 rfl (lv_at hl 1 rfl) ?_
        refine lv_aload_n hx hb dPl_send_54 rfl (lv_at hl 3 rfl) ?_
        replace h := ob h; obtain ⟨r22, er22, h⟩ := h
        refine hq_get hx hb hts hown hW (gR_V er22) (F_Pl_220 hts) dPl_send_55 ?_
        replace h := ob h; obtain ⟨a23, hra23, h⟩ := h
        subst hra23
        replace h := ob h; obtain ⟨r24, er24, h⟩ := h
        refine hq_get hx hb hts hown hW (gR_V er24) (F_Pl_144 hts) dPl_send_58 ?_
        refine lv_aload_n hx hb dPl_send_61 rfl (lv_at hl 3 rfl) ?_
        replace h := ob h; obtain ⟨r25, er25, h⟩ := h
        refine hq_get hx hb hts hown hW (gR_V er25) (F_Pl_209 hts) dPl_send_62 ?_
        replace h := ob h; obtain ⟨a26, hra26, h⟩ := h
        subst hra26
        replace h := ob h; obtain ⟨r27, er27, h⟩ := h
        refine hq_get hx hb hts hown hW (gR_V er27) (F_Pl_144 hts) dPl_send_65 ?_
        replace h := ob h; obtain ⟨a28, hra28, h⟩ := h
        subst hra28
        replace h := ob h; obtain ⟨a29, hra29, h⟩ := h
        subst hra29
        replace h := ob h; obtain ⟨q31, eq31, h⟩ := h
        replace h := ob h; obtain ⟨S30, eS30, h⟩ := h
        refine hq_callv (ce := 0) (sl := 0) (va_runV (As := [.ref a2, .ref a28, .ref a29]) (rest := []) ⟨hx, hb, hml, hown, hts⟩ (kSl_writeAnswer l D tc b a21 a2 a28 a29 S18 _ eS30) (cwV 3 hts GV_Pl_233_Sl rfl rfl rfl hd_Sl_writeAnswer_V ⟨Nat.le_of_ble_eq_true rfl, Nat.le_of_ble_eq_true rfl⟩) (hq_preV1 hW eq31 rfl rfl) rfl rfl hl.1 rfl (lv_room (by first | exact Nat.le_of_ble_eq_true rfl | (simp only [List.map, rf_cat]; exact Nat.le_of_ble_eq_true rfl))) dPl_send_68 ⟨Nat.le_of_ble_eq_true rfl, Nat.le_of_ble_eq_true rfl⟩) hW rfl rfl (fun H locs hW => ?_)
        refine lv_aload_n hx hb dPl_send_71 rfl (lv_at hl 3 rfl) ?_
        replace h := ob h; obtain ⟨r32, er32, h⟩ := h
        refine hq_get hx hb hts hown hW (gR_V er32) (F_Pl_209 hts) dPl_send_72 ?_
        replace h := ob h; obtain ⟨a33, hra33, h⟩ := h
        subst hra33
        replace h := ob h; obtain ⟨q36, eq36, h⟩ := h
        replace h := ob h; obtain ⟨⟨v35, S34⟩, eS34, h⟩ := h
        refine hq_calli (ce := 0) (sl := 0) (va_runV (As := []) (rest := []) ⟨hx, hb, hml, hown, hts⟩ (kWa_spendFault l D tc b a33 S30 _ _ eS34) (cwV 0 hts GV_Pl_226_Wa rfl rfl rfl hd_Wa_spendFault_V ⟨Nat.le_of_ble_eq_true rfl, Nat.le_of_ble_eq_true rfl⟩) (hq_preV1 hW eq36 rfl rfl) rfl rfl hl.1 rfl (lv_room (by first | exact Nat.le_of_ble_eq_true rfl | (simp only [List.map, rf_cat]; exact Nat.le_of_ble_eq_true rfl))) dPl_send_75 ⟨Nat.le_of_ble_eq_true rfl, Nat.le_of_ble_eq_true rfl⟩) hW rfl rfl (fun H locs hW => ?_)
        refine lv_istore (lv' := [(4, .int v35), (3, .ref a21), (2, .ref a2), (0, .ref t0), (1, .ref t1)]) hx hb dPl_send_78 hl (Nat.le_of_ble_eq_true rfl) (by first | rfl | (simp [List.filter, rf_cat] <;> rfl)) (fun ls hl => ?_)
        refine lv_iload hx hb dPl_send_80 (lv_at hl 0 rfl) ?_
        refine lv_if_ne hx hb dPl_send_82 (tgt := 106) rfl (fun hc42 => ?_) (fun hc42 => ?_)
        · replace h := if_f hc42 h
          exact hq_vret hx hb hr hlocks h (Nat.le_of_ble_eq_true rfl) (Nat.le_of_ble_eq_true rfl) hW dPl_send_106
        · replace h := if_t hc42 h
          refine lv_aload_n hx hb dPl_send_85 rfl (lv_at hl 1 rfl) ?_
          replace h := ob h; obtain ⟨v37, ev37, h⟩ := h
          refine hq_get hx hb hts hown hW (gI_V ev37) (F_Pl_63 hts) dPl_send_86 ?_
          refine lv_iconst hx hb dPl_send_89 (v := (3 : Int32)) rfl ?_
          refine lv_icmp_ge hx hb dPl_send_90 (tgt := 106) rfl (fun hc41 => ?_) (fun hc41 => ?_)
          · replace h := if_t hc41 h
            exact hq_vret hx hb hr hlocks h (Nat.le_of_ble_eq_true rfl) (Nat.le_of_ble_eq_true rfl) hW dPl_send_106
          · replace h := if_f hc41 h
            refine lv_aload_n hx hb dPl_send_93 rfl (lv_at hl 4 rfl) ?_
            refine lv_aload_n hx hb dPl_send_94 rfl (lv_at hl 3 rfl) ?_
            replace h := ob h; obtain ⟨v38, ev38, h⟩ := h
            refine hq_get hx hb hts hown hW (gI_V ev38) (F_Pl_107 hts) dPl_send_95 ?_
            refine lv_aload_n hx hb dPl_send_98 rfl (lv_at hl 1 rfl) ?_
            replace h := ob h; obtain ⟨v39, ev39, h⟩ := h
            refine hq_get hx hb hts hown hW (gI_V ev39) (F_Pl_63 hts) dPl_send_99 ?_
            refine lv_iadd hx hb dPl_send_102 ?_
            replace h := ob h; obtain ⟨S40, eS40, h⟩ := h
            refine hq_put hx hb hts hown hW eS40 (F_Pl_203 hts) P_Pl_Li_8 rfl rfl dPl_send_103 (fun H locs hW => ?_)
            exact hq_vret hx hb hr hlocks h (Nat.le_of_ble_eq_true rfl) (Nat.le_of_ble_eq_true rfl) hW dPl_send_106
    · replace h := if_f hc43 h
      exact hq_vret hx hb hr hlocks h (Nat.le_of_ble_eq_true rfl) (Nat.le_of_ble_eq_true rfl) hW dPl_send_39
def fPl_serve (t0 : Nat) (t1 : Nat) (S : Ws) : Option (Ws) :=
  (gO S t0 [7]).bind fun q2 => (fPl_takeAnswer t0 t1 S).bind fun S1 => (gI S1 t0 [7] 7).bind fun v3 => (gO S1 t1 [2]).bind fun q6 => (fLi_isOverdue t1 v3 S1).bind fun (v5, S4) => (if v5 = 0 then some S4 else (gO S4 t1 [2]).bind fun q11 => (fLi_maySendAgain t1 S4).bind fun (v10, S9) => if v10 = 0 then (gO S9 t1 [2]).bind fun q13 => (fLi_giveUp t1 S9).bind fun S12 => some S12 else (gO S9 t0 [7]).bind fun q15 => (fPl_send t0 t1 S9).bind fun S14 => (gO S14 t0 [7]).bind fun q17 => (fPl_takeAnswer t0 t1 S14).bind fun S16 => some S16).bind fun S7 => (gO S7 t1 [2]).bind fun q22 => (fLi_startNext t1 S7).bind fun (v21, S20) => if v21 = 0 then some S20 else (gO S20 t0 [7]).bind fun q24 => (fPl_send t0 t1 S20).bind fun S23 => (gO S23 t0 [7]).bind fun q26 => (fPl_takeAnswer t0 t1 S23).bind fun S25 => some S25
set_option maxRecDepth 100000 in
set_option maxHeartbeats 4000000 in
theorem kPl_serve (l : Launch) (D : va_G) (tc : Nat → ClassId) (b : Nat) (t0 : Nat) (t1 : Nat) (S Sz : Ws) (h : fPl_serve t0 t1 S = some Sz) : Met l yPl_serve wsPl_serve { frames := 6, cells := 0, slots := 0, locals := 240 } (va_Pc [.ref t0, .ref t1] (Wp D vwCl (hTy tc) b S)) (va_Qv (fun _ : Unit => True) (fun _ => Wp D vwCl (hTy tc) b Sz) (fun q => b ≤ q)) 0 0 (fun q => b ≤ q) := by
  refine hq_ofW (cc := cPl_serve) (maxL := 2) (ret := none) (by decide) rfl (Nat.le_of_ble_eq_true rfl) fun p e s m args below meth c hx hb hr hts hown hlocks hnm hml H locs ls hl hW => ?_
  have hts : ∀ w ∈ lwG, w.before args s = true := fun w h => hts w (List.mem_cons_of_mem _ h)
  have hown : s.vm.findClass "SerialPlant" = some m.cls := hown
  have hl : lv_has ls 2 [(0, .ref t0), (1, .ref t1)] := hl
  unfold fPl_serve at h
  refine lv_aload_n hx hb dPl_serve_0 rfl (lv_at hl 0 rfl) ?_
  refine lv_aload_n hx hb dPl_serve_1 rfl (lv_at hl 1 rfl) ?_
  replace h := ob h; obtain ⟨q2, eq2, h⟩ := h
  replace h := ob h; obtain ⟨S1, eS1, h⟩ := h
  refine hq_callv (ce := 0) (sl := 0) (va_runV (As := [.ref t1]) (rest := []) ⟨hx, hb, hml, hown, hts⟩ (kPl_takeAnswer l D tc b t0 t1 S _ eS1) (cwV 1 hts GV_Pl_185_Pl rfl rfl rfl hd_Pl_takeAnswer_V ⟨Nat.le_of_ble_eq_true rfl, Nat.le_of_ble_eq_true rfl⟩) (hq_preV1 hW eq2 rfl rfl) rfl rfl hl.1 rfl (lv_room (by first | exact Nat.le_of_ble_eq_true rfl | (simp only [List.map, rf_cat]; exact Nat.le_of_ble_eq_true rfl))) dPl_serve_2 ⟨Nat.le_of_ble_eq_true rfl, Nat.le_of_ble_eq_true rfl⟩) hW rfl rfl (fun H locs hW => ?_)
  refine lv_aload_n hx hb dPl_serve_5 rfl (lv_at hl 1 rfl) ?_
  refine lv_aload_n hx hb dPl_serve_6 rfl (lv_at hl 0 rfl) ?_
  replace h := ob h; obtain ⟨v3, ev3, h⟩ := h
  refine hq_get hx hb hts hown hW (gI_V ev3) (F_Pl_107 hts) dPl_serve_7 ?_
  replace h := ob h; obtain ⟨q6, eq6, h⟩ := h
  replace h := ob h; obtain ⟨⟨v5, S4⟩, eS4, h⟩ := h
  refine hq_calli (ce := 0) (sl := 0) (va_runV (As := [.int v3]) (rest := []) ⟨hx, hb, hml, hown, hts⟩ (kLi_isOverdue l D tc b t1 v3 S1 _ _ eS4) (cwV 1 hts GV_Pl_188_Li rfl rfl rfl hd_Li_isOverdue_V ⟨Nat.le_of_ble_eq_true rfl, Nat.le_of_ble_eq_true rfl⟩) (hq_preV1 hW eq6 rfl rfl) rfl rfl hl.1 rfl (lv_room (by first | exact Nat.le_of_ble_eq_true rfl | (simp only [List.map, rf_cat]; exact Nat.le_of_ble_eq_true rfl))) dPl_serve_10 ⟨Nat.le_of_ble_eq_true rfl, Nat.le_of_ble_eq_true rfl⟩) hW rfl rfl (fun H locs hW => ?_)
  replace h := ob h; obtain ⟨q8, e40, h⟩ := h
  have hJ40 : ∀ q', q' = q8 → ∀ (H : Heap) (locs : List Loc) (ls : Array Slot), lv_has ls 2 [(0, .ref t0), (1, .ref t1)] → Wd D vwCl (hTy tc) b q' s H locs → W p l e { frames := 6, cells := 0, slots := 0, locals := 240 } s m args below meth c H locs 0 0 (MQ below (va_Qv (fun _ : Unit => True) (fun _ => Wp D vwCl (hTy tc) b Sz) (fun q => b ≤ q)) args s 0 0 (fun q => b ≤ q)) (F0 m 40 ls []) := by
    intro S7 hq'; subst hq'
    intro H locs ls hl hW
    refine lv_aload_n hx hb dPl_serve_40 rfl (lv_at hl 1 rfl) ?_
    replace h := ob h; obtain ⟨q22, eq22, h⟩ := h
    replace h := ob h; obtain ⟨⟨v21, S20⟩, eS20, h⟩ := h
    refine hq_calli (ce := 0) (sl := 0) (va_runV (As := []) (rest := []) ⟨hx, hb, hml, hown, hts⟩ (kLi_startNext l D tc b t1 S7 _ _ eS20) (cwV 0 hts GV_Pl_200_Li rfl rfl rfl hd_Li_startNext_V ⟨Nat.le_of_ble_eq_true rfl, Nat.le_of_ble_eq_true rfl⟩) (hq_preV1 hW eq22 rfl rfl) rfl rfl hl.1 rfl (lv_room (by first | exact Nat.le_of_ble_eq_true rfl | (simp only [List.map, rf_cat]; exact Nat.le_of_ble_eq_true rfl))) dPl_serve_41 ⟨Nat.le_of_ble_eq_true rfl, Nat.le_of_ble_eq_true rfl⟩) hW rfl rfl (fun H locs hW => ?_)
    refine lv_if_eq hx hb dPl_serve_44 (tgt := 57) rfl (fun hc27 => ?_) (fun hc27 => ?_)
    · replace h := if_t hc27 h
      exact hq_vret hx hb hr hlocks h (Nat.le_of_ble_eq_true rfl) (Nat.le_of_ble_eq_true rfl) hW dPl_serve_57
    · replace h := if_f hc27 h
      refine lv_aload_n hx hb dPl_serve_47 rfl (lv_at hl 0 rfl) ?_
      refine lv_aload_n hx hb dPl_serve_48 rfl (lv_at hl 1 rfl) ?_
      replace h := ob h; obtain ⟨q24, eq24, h⟩ := h
      replace h := ob h; obtain ⟨S23, eS23, h⟩ := h
      refine hq_callv (ce := 0) (sl := 0) (va_runV (As := [.ref t1]) (rest := []) ⟨hx, hb, hml, hown, hts⟩ (kPl_send l D tc b t0 t1 S20 _ eS23) (cwV 1 hts GV_Pl_194_Pl rfl rfl rfl hd_Pl_send_V ⟨Nat.le_of_ble_eq_true rfl, Nat.le_of_ble_eq_true rfl⟩) (hq_preV1 hW eq24 rfl rfl) rfl rfl hl.1 rfl (lv_room (by first | exact Nat.le_of_ble_eq_true rfl | (simp only [List.map, rf_cat]; exact Nat.le_of_ble_eq_true rfl))) dPl_serve_49 ⟨Nat.le_of_ble_eq_true rfl, Nat.le_of_ble_eq_true rfl⟩) hW rfl rfl (fun H locs hW => ?_)
      refine lv_aload_n hx hb dPl_serve_52 rfl (lv_at hl 0 rfl) ?_
      refine lv_aload_n hx hb dPl_serve_53 rfl (lv_at hl 1 rfl) ?_
      replace h := ob h; obtain ⟨q26, eq26, h⟩ := h
      replace h := ob h; obtain ⟨S25, eS25, h⟩ := h
      refine hq_callv (ce := 0) (sl := 0) (va_runV (As := [.ref t1]) (rest := []) ⟨hx, hb, hml, hown, hts⟩ (kPl_takeAnswer l D tc b t0 t1 S23 _ eS25) (cwV 1 hts GV_Pl_185_Pl rfl rfl rfl hd_Pl_takeAnswer_V ⟨Nat.le_of_ble_eq_true rfl, Nat.le_of_ble_eq_true rfl⟩) (hq_preV1 hW eq26 rfl rfl) rfl rfl hl.1 rfl (lv_room (by first | exact Nat.le_of_ble_eq_true rfl | (simp only [List.map, rf_cat]; exact Nat.le_of_ble_eq_true rfl))) dPl_serve_54 ⟨Nat.le_of_ble_eq_true rfl, Nat.le_of_ble_eq_true rfl⟩) hW rfl rfl (fun H locs hW => ?_)
      exact hq_vret hx hb hr hlocks h (Nat.le_of_ble_eq_true rfl) (Nat.le_of_ble_eq_true rfl) hW dPl_serve_57
  clear h; have h := e40; clear e40
  refine lv_if_eq hx hb dPl_serve_13 (tgt := 40) rfl (fun hc19 => ?_) (fun hc19 => ?_)
  · replace h := if_t hc19 h
    exact hJ40 _ (Option.some.inj h) _ _ _ (lv_sub hl [0, 1] rfl) hW
  · replace h := if_f hc19 h
    refine lv_aload_n hx hb dPl_serve_16 rfl (lv_at hl 1 rfl) ?_
    replace h := ob h; obtain ⟨q11, eq11, h⟩ := h
    replace h := ob h; obtain ⟨⟨v10, S9⟩, eS9, h⟩ := h
    refine hq_calli (ce := 0) (sl := 0) (va_runV (As := []) (rest := []) ⟨hx, hb, hml, hown, hts⟩ (kLi_maySendAgain l D tc b t1 S4 _ _ eS9) (cwV 0 hts GV_Pl_191_Li rfl rfl rfl hd_Li_maySendAgain_V ⟨Nat.le_of_ble_eq_true rfl, Nat.le_of_ble_eq_true rfl⟩) (hq_preV1 hW eq11 rfl rfl) rfl rfl hl.1 rfl (lv_room (by first | exact Nat.le_of_ble_eq_true rfl | (simp only [List.map, rf_cat]; exact Nat.le_of_ble_eq_true rfl))) dPl_serve_17 ⟨Nat.le_of_ble_eq_true rfl, Nat.le_of_ble_eq_true rfl⟩) hW rfl rfl (fun H locs hW => ?_)
    refine lv_if_eq hx hb dPl_serve_20 (tgt := 36) rfl (fun hc18 => ?_) (fun hc18 => ?_)
    · replace h := if_t hc18 h
      refine lv_aload_n hx hb dPl_serve_36 rfl (lv_at hl 1 rfl) ?_
      replace h := ob h; obtain ⟨q13, eq13, h⟩ := h
      replace h := ob h; obtain ⟨S12, eS12, h⟩ := h
      refine hq_callv (ce := 0) (sl := 0) (va_runV (As := []) (rest := []) ⟨hx, hb, hml, hown, hts⟩ (kLi_giveUp l D tc b t1 S9 _ eS12) (cwV 0 hts GV_Pl_197_Li rfl rfl rfl hd_Li_giveUp_V ⟨Nat.le_of_ble_eq_true rfl, Nat.le_of_ble_eq_true rfl⟩) (hq_preV1 hW eq13 rfl rfl) rfl rfl hl.1 rfl (lv_room (by first | exact Nat.le_of_ble_eq_true rfl | (simp only [List.map, rf_cat]; exact Nat.le_of_ble_eq_true rfl))) dPl_serve_37 ⟨Nat.le_of_ble_eq_true rfl, Nat.le_of_ble_eq_true rfl⟩) hW rfl rfl (fun H locs hW => ?_)
      exact hJ40 _ (Option.some.inj h) _ _ _ (lv_sub hl [0, 1] rfl) hW
    · replace h := if_f hc18 h
      refine lv_aload_n hx hb dPl_serve_23 rfl (lv_at hl 0 rfl) ?_
      refine lv_aload_n hx hb dPl_serve_24 rfl (lv_at hl 1 rfl) ?_
      replace h := ob h; obtain ⟨q15, eq15, h⟩ := h
      replace h := ob h; obtain ⟨S14, eS14, h⟩ := h
      refine hq_callv (ce := 0) (sl := 0) (va_runV (As := [.ref t1]) (rest := []) ⟨hx, hb, hml, hown, hts⟩ (kPl_send l D tc b t0 t1 S9 _ eS14) (cwV 1 hts GV_Pl_194_Pl rfl rfl rfl hd_Pl_send_V ⟨Nat.le_of_ble_eq_true rfl, Nat.le_of_ble_eq_true rfl⟩) (hq_preV1 hW eq15 rfl rfl) rfl rfl hl.1 rfl (lv_room (by first | exact Nat.le_of_ble_eq_true rfl | (simp only [List.map, rf_cat]; exact Nat.le_of_ble_eq_true rfl))) dPl_serve_25 ⟨Nat.le_of_ble_eq_true rfl, Nat.le_of_ble_eq_true rfl⟩) hW rfl rfl (fun H locs hW => ?_)
      refine lv_aload_n hx hb dPl_serve_28 rfl (lv_at hl 0 rfl) ?_
      refine lv_aload_n hx hb dPl_serve_29 rfl (lv_at hl 1 rfl) ?_
      replace h := ob h; obtain ⟨q17, eq17, h⟩ := h
      replace h := ob h; obtain ⟨S16, eS16, h⟩ := h
      refine hq_callv (ce := 0) (sl := 0) (va_runV (As := [.ref t1]) (rest := []) ⟨hx, hb, hml, hown, hts⟩ (kPl_takeAnswer l D tc b t0 t1 S14 _ eS16) (cwV 1 hts GV_Pl_185_Pl rfl rfl rfl hd_Pl_takeAnswer_V ⟨Nat.le_of_ble_eq_true rfl, Nat.le_of_ble_eq_true rfl⟩) (hq_preV1 hW eq17 rfl rfl) rfl rfl hl.1 rfl (lv_room (by first | exact Nat.le_of_ble_eq_true rfl | (simp only [List.map, rf_cat]; exact Nat.le_of_ble_eq_true rfl))) dPl_serve_30 ⟨Nat.le_of_ble_eq_true rfl, Nat.le_of_ble_eq_true rfl⟩) hW rfl rfl (fun H locs hW => ?_)
      refine lv_goto hx hb dPl_serve_33 (tgt := 40) rfl ?_
      exact hJ40 _ (Option.some.inj h) _ _ _ (lv_sub hl [0, 1] rfl) hW
def fPl_tick_L26 (t0 : Nat) : Int32 × Ws → Option ((Int32 × Ws) ⊕ (Ws)) :=
  fun (i9, S10) => if (2 : Int32) ≤ i9 then some (.inr S10) else (gR S10 t0 [7] 1).bind fun r13 => (r13).bind fun a14 => (aR S10 a14 4 i9).bind fun r15 => (r15).bind fun a16 => (gO S10 t0 [7]).bind fun q18 => (fPl_serve t0 a16 S10).bind fun S17 => some (.inl (i9 + 1, S17))
def fPl_tick (t0 : Nat) (S : Ws) : Option (Int32 × Ws) :=
  (gI S t0 [7] 7).bind fun v1 => (pV S t0 [7] 7 (.int (v1 + (1 : Int32)))).bind fun S2 => (gI S2 t0 [7] 7).bind fun v3 => (if (v3 - v3 / (8 : Int32) * (8 : Int32)) = 0 then (gO S2 t0 [7]).bind fun q7 => (fPl_queuePolls t0 S2).bind fun S6 => some S6 else some S2).bind fun S4 => (lp (fPl_tick_L26 t0) 1000 ((0 : Int32), S4)).bind fun S12 => (gI S12 t0 [7] 7).bind fun v20 => some (v20, S12)
set_option maxRecDepth 100000 in
set_option maxHeartbeats 4000000 in
theorem kPl_tick (l : Launch) (D : va_G) (tc : Nat → ClassId) (b : Nat) (t0 : Nat) (S Sz : Ws) (rr : Int32) (h : fPl_tick t0 S = some (rr, Sz)) : Met l yPl_tick wsPl_tick { frames := 7, cells := 0, slots := 0, locals := 280 } (va_Pc [.ref t0] (Wp D vwCl (hTy tc) b S)) (va_Qi (fun x (_ : Unit) => x = rr) (fun _ => Wp D vwCl (hTy tc) b Sz) (fun q => b ≤ q)) 0 0 (fun q => b ≤ q) := by
  refine hq_ofW (cc := cPl_tick) (maxL := 2) (ret := (some .int)) (by decide) rfl (Nat.le_of_ble_eq_true rfl) fun p e s m args below meth c hx hb hr hts hown hlocks hnm hml H locs ls hl hW => ?_
  have hts : ∀ w ∈ lwG, w.before args s = true := fun w h => hts w (List.mem_cons_of_mem _ h)
  have hown : s.vm.findClass "SerialPlant" = some m.cls := hown
  have hl : lv_has ls 2 [(0, .ref t0)] := hl
  unfold fPl_tick at h
  refine lv_aload_n hx hb dPl_tick_0 rfl (lv_at hl 0 rfl) ?_
  refine lv_dup hx hb dPl_tick_1 rfl ?_
  replace h := ob h; obtain ⟨v1, ev1, h⟩ := h
  refine hq_get hx hb hts hown hW (gI_V ev1) (F_Pl_107 hts) dPl_tick_2 ?_
  refine lv_iconst hx hb dPl_tick_5 (v := (1 : Int32)) rfl ?_
  refine lv_iadd hx hb dPl_tick_6 ?_
  replace h := ob h; obtain ⟨S2, eS2, h⟩ := h
  refine hq_put hx hb hts hown hW eS2 (F_Pl_107 hts) P_Pl_Pl_7 rfl rfl dPl_tick_7 (fun H locs hW => ?_)
  refine lv_aload_n hx hb dPl_tick_10 rfl (lv_at hl 0 rfl) ?_
  replace h := ob h; obtain ⟨v3, ev3, h⟩ := h
  refine hq_get hx hb hts hown hW (gI_V ev3) (F_Pl_107 hts) dPl_tick_11 ?_
  refine lv_bipush hx hb dPl_tick_14 (v := (8 : Int32)) rfl ?_
  refine lv_irem hx hb dPl_tick_16 (by decide) ?_
  replace h := ob h; obtain ⟨q5, e24, h⟩ := h
  have hJ24 : ∀ q', q' = q5 → ∀ (H : Heap) (locs : List Loc) (ls : Array Slot), lv_has ls 2 [(0, .ref t0)] → Wd D vwCl (hTy tc) b q' s H locs → W p l e { frames := 7, cells := 0, slots := 0, locals := 280 } s m args below meth c H locs 0 0 (MQ below (va_Qi (fun x (_ : Unit) => x = rr) (fun _ => Wp D vwCl (hTy tc) b Sz) (fun q => b ≤ q)) args s 0 0 (fun q => b ≤ q)) (F0 m 24 ls []) := by
    intro S4 hq'; subst hq'
    intro H locs ls hl hW
    refine lv_iconst hx hb dPl_tick_24 (v := (0 : Int32)) rfl ?_
    refine lv_istore_n (lv' := [(1, .int (0 : Int32)), (0, .ref t0)]) hx hb dPl_tick_25 rfl hl (Nat.le_of_ble_eq_true rfl) (by first | rfl | (simp [List.filter, rf_cat] <;> rfl)) (fun ls hl => ?_)
    replace h := ob h; obtain ⟨S12, eS12, h⟩ := h
    have hX : (fun q' => ∀ (H : Heap) (locs : List Loc) (ls : Array Slot), lv_has ls 2 [(0, .ref t0)] → Wd D vwCl (hTy tc) b q' s H locs → W p l e { frames := 7, cells := 0, slots := 0, locals := 280 } s m args below meth c H locs 0 0 (MQ below (va_Qi (fun x (_ : Unit) => x = rr) (fun _ => Wp D vwCl (hTy tc) b Sz) (fun q => b ≤ q)) args s 0 0 (fun q => b ≤ q)) (F0 m 47 ls [])) S12 := by
      intro H locs ls hl hW
      refine lv_aload_n hx hb dPl_tick_47 rfl (lv_at hl 0 rfl) ?_
      replace h := ob h; obtain ⟨v20, ev20, h⟩ := h
      refine hq_get hx hb hts hown hW (gI_V ev20) (F_Pl_107 hts) dPl_tick_48 ?_
      exact hq_iret hx hb hr hlocks h (Nat.le_of_ble_eq_true rfl) (Nat.le_of_ble_eq_true rfl) hW dPl_tick_51
    refine lp_ind (P := fun q' => ∀ (H : Heap) (locs : List Loc) (ls : Array Slot), lv_has ls 2 [(0, .ref t0), (1, .int q'.1)] → Wd D vwCl (hTy tc) b q'.2 s H locs → W p l e { frames := 7, cells := 0, slots := 0, locals := 280 } s m args below meth c H locs 0 0 (MQ below (va_Qi (fun x (_ : Unit) => x = rr) (fun _ => Wp D vwCl (hTy tc) b Sz) (fun q => b ≤ q)) args s 0 0 (fun q => b ≤ q)) (F0 m 26 ls [])) (Q := fun q' => ∀ (H : Heap) (locs : List Loc) (ls : Array Slot), lv_has ls 2 [(0, .ref t0)] → Wd D vwCl (hTy tc) b q' s H locs → W p l e { frames := 7, cells := 0, slots := 0, locals := 280 } s m args below meth c H locs 0 0 (MQ below (va_Qi (fun x (_ : Unit) => x = rr) (fun _ => Wp D vwCl (hTy tc) b Sz) (fun q => b ≤ q)) args s 0 0 (fun q => b ≤ q)) (F0 m 47 ls [])) (fun q' x11 h hin hex => ?_) hX _ _ eS12 _ _ _ (lv_sub hl [1, 0] rfl) hW
    obtain ⟨i9, S10⟩ := q'
    intro H locs ls hl hW
    unfold fPl_tick_L26 at h
    refine lv_iload_n hx hb dPl_tick_26 rfl (lv_at hl 1 rfl) ?_
    refine lv_iconst hx hb dPl_tick_27 (v := (2 : Int32)) rfl ?_
    refine lv_icmp_ge hx hb dPl_tick_28 (tgt := 47) rfl (fun hc19 => ?_) (fun hc19 => ?_)
    · replace h := if_t hc19 h
      exact hex _ (Option.some.inj h).symm _ _ _ (lv_sub hl [0] rfl) hW
    · replace h := if_f hc19 h
      refine lv_aload_n hx hb dPl_tick_31 rfl (lv_at hl 0 rfl) ?_
      refine lv_aload_n hx hb dPl_tick_32 rfl (lv_at hl 0 rfl) ?_
      replace h := ob h; obtain ⟨r13, er13, h⟩ := h
      refine hq_get hx hb hts hown hW (gR_V er13) (F_Pl_20 hts) dPl_tick_33 ?_
      refine lv_iload_n hx hb dPl_tick_36 rfl (lv_at hl 1 rfl) ?_
      replace h := ob h; obtain ⟨a14, hra14, h⟩ := h
      subst hra14
      replace h := ob h; obtain ⟨r15, er15, h⟩ := h
      refine hq_aald hx hb hW er15 rfl dPl_tick_37 ?_
      replace h := ob h; obtain ⟨a16, hra16, h⟩ := h
      subst hra16
      replace h := ob h; obtain ⟨q18, eq18, h⟩ := h
      replace h := ob h; obtain ⟨S17, eS17, h⟩ := h
      refine hq_callv (ce := 0) (sl := 0) (va_runV (As := [.ref a16]) (rest := []) ⟨hx, hb, hml, hown, hts⟩ (kPl_serve l D tc b t0 a16 S10 _ eS17) (cwV 1 hts GV_Pl_113_Pl rfl rfl rfl hd_Pl_serve_V ⟨Nat.le_of_ble_eq_true rfl, Nat.le_of_ble_eq_true rfl⟩) (hq_preV1 hW eq18 rfl rfl) rfl rfl hl.1 rfl (lv_room (by first | exact Nat.le_of_ble_eq_true rfl | (simp only [List.map, rf_cat]; exact Nat.le_of_ble_eq_true rfl))) dPl_tick_38 ⟨Nat.le_of_ble_eq_true rfl, Nat.le_of_ble_eq_true rfl⟩) hW rfl rfl (fun H locs hW => ?_)
      refine lv_iinc (k := 1) (v := i9 + 1) (lv' := [(1, .int (i9 + 1)), (0, .ref t0)]) hx hb dPl_tick_41 hl rfl rfl (Nat.le_of_ble_eq_true rfl) (by first | rfl | (simp [List.filter, rf_cat] <;> rfl)) (fun ls hl => ?_)
      refine lv_goto hx hb dPl_tick_44 (tgt := 26) rfl ?_
      exact hin _ (Option.some.inj h).symm _ _ _ (lv_sub hl [1, 0] rfl) hW
  clear h; have h := e24; clear e24
  refine lv_if_ne hx hb dPl_tick_17 (tgt := 24) rfl (fun hc8 => ?_) (fun hc8 => ?_)
  · replace h := if_f hc8 h
    exact hJ24 _ (Option.some.inj h) _ _ _ (lv_sub hl [0] rfl) hW
  · replace h := if_t hc8 h
    refine lv_aload_n hx hb dPl_tick_20 rfl (lv_at hl 0 rfl) ?_
    replace h := ob h; obtain ⟨q7, eq7, h⟩ := h
    replace h := ob h; obtain ⟨S6, eS6, h⟩ := h
    refine hq_callv (ce := 0) (sl := 0) (va_runV (As := []) (rest := []) ⟨hx, hb, hml, hown, hts⟩ (kPl_queuePolls l D tc b t0 S2 _ eS6) (cwV 0 hts GV_Pl_110_Pl rfl rfl rfl hd_Pl_queuePolls_V ⟨Nat.le_of_ble_eq_true rfl, Nat.le_of_ble_eq_true rfl⟩) (hq_preV1 hW eq7 rfl rfl) rfl rfl hl.1 rfl (lv_room (by first | exact Nat.le_of_ble_eq_true rfl | (simp only [List.map, rf_cat]; exact Nat.le_of_ble_eq_true rfl))) dPl_tick_21 ⟨Nat.le_of_ble_eq_true rfl, Nat.le_of_ble_eq_true rfl⟩) hW rfl rfl (fun H locs hW => ?_)
    exact hJ24 _ (Option.some.inj h) _ _ _ (lv_sub hl [0] rfl) hW
def fPl_reply (t0 : Nat) (t1 : Int32) (t2 : Int32) (S : Ws) : Option (Int64 × Ws) :=
  (if t1 < 0 then some none else (gI S t0 [7] 5).bind fun v3 => if v3 ≤ t1 then some none else (gR S t0 [7] 2).bind fun r4 => (r4).bind fun a5 => (aR S a5 5 t1).bind fun r6 => some r6).bind fun r1 => oc r1 (some ((-1 : Int64), S)) (fun a9 => if t2 = 0 then (gI S a9 [4] 6).bind fun v11 => some (v11.toInt64, S) else if t2 = 1 then (gI S a9 [4] 7).bind fun v13 => some (v13.toInt64, S) else if t2 = 2 then (gL S a9 [4] 8).bind fun u15 => some (u15, S) else some ((-1 : Int64), S))
set_option maxRecDepth 100000 in
set_option maxHeartbeats 4000000 in
theorem kPl_reply (l : Launch) (D : va_G) (tc : Nat → ClassId) (b : Nat) (t0 : Nat) (t1 : Int32) (t2 : Int32) (S Sz : Ws) (rr : Int64) (h : fPl_reply t0 t1 t2 S = some (rr, Sz)) : Met l yPl_reply wsPl_reply { frames := 1, cells := 0, slots := 0, locals := 40 } (va_Pc [.ref t0, .int t1, .int t2] (Wp D vwCl (hTy tc) b S)) (va_Ql (fun x (_ : Unit) => x = rr) (fun _ => Wp D vwCl (hTy tc) b Sz) (fun q => b ≤ q)) 0 0 (fun q => b ≤ q) := by
  refine hq_ofW (cc := cPl_reply) (maxL := 4) (ret := (some .long)) (by decide) rfl (Nat.le_of_ble_eq_true rfl) fun p e s m args below meth c hx hb hr hts hown hlocks hnm hml H locs ls hl hW => ?_
  have hts : ∀ w ∈ lwG, w.before args s = true := fun w h => hts w (List.mem_cons_of_mem _ h)
  have hown : s.vm.findClass "SerialPlant" = some m.cls := hown
  have hl : lv_has ls 4 [(0, .ref t0), (1, .int t1), (2, .int t2)] := hl
  unfold fPl_reply at h
  refine lv_iload_n hx hb dPl_reply_0 rfl (lv_at hl 1 rfl) ?_
  replace h := ob h; obtain ⟨q2, e22, h⟩ := h
  have hJ22 : ∀ q', q' = q2 → ∀ (H : Heap) (locs : List Loc) (ls : Array Slot), lv_has ls 4 [(2, .int t2)] → Wd D vwCl (hTy tc) b S s H locs → W p l e { frames := 1, cells := 0, slots := 0, locals := 40 } s m args below meth c H locs 0 0 (MQ below (va_Ql (fun x (_ : Unit) => x = rr) (fun _ => Wp D vwCl (hTy tc) b Sz) (fun q => b ≤ q)) args s 0 0 (fun q => b ≤ q)) (F0 m 22 ls [va_rf q']) := by
    intro r1 hq'; subst hq'
    intro H locs ls hl hW
    refine hq_astore_n (x := r1) (lv' := [(3, va_rf r1), (2, .int t2)]) hx hb dPl_reply_22 rfl hl (Nat.le_of_ble_eq_true rfl) (by first | rfl | (simp [List.filter, rf_cat] <;> rfl)) (fun ls hl => ?_)
    refine hq_aload_n (x := r1) hx hb dPl_reply_23 rfl (lv_at hl 0 rfl) ?_
    refine hq_ifnonnull hx hb dPl_reply_24 (tgt := 31) rfl (fun hc => ?_) (fun a9 hc => ?_)
    · subst hc
      replace h := oc_n h
      refine lv_ldc2 hx hb (v := (-1 : Int64)) hown (hts _ w_570) dPl_reply_27 ?_
      exact hq_lret hx hb hr hlocks h (Nat.le_of_ble_eq_true rfl) (Nat.le_of_ble_eq_true rfl) hW dPl_reply_30
    · subst hc
      replace h := oc_s h
      refine lv_iload_n hx hb dPl_reply_31 rfl (lv_at hl 1 rfl) ?_
      by_cases hc10 : t2 = 0
      · replace h := if_t hc10 h
        refine lv_tableIn hx hb dPl_reply_32 (tgt := 60) (by rw [hc10]; decide) (by rw [hc10]; decide) (by rw [hc10] <;> rfl) rfl ?_
        refine lv_aload_n hx hb dPl_reply_60 rfl (lv_at hl 0 rfl) ?_
        replace h := ob h; obtain ⟨v11, ev11, h⟩ := h
        refine hq_get hx hb hts hown hW (gI_V ev11) (F_Pl_119 hts) dPl_reply_61 ?_
        refine lv_i2l hx hb dPl_reply_64 (v := v11.toInt64) rfl ?_
        exact hq_lret hx hb hr hlocks h (Nat.le_of_ble_eq_true rfl) (Nat.le_of_ble_eq_true rfl) hW dPl_reply_65
      · replace h := if_f hc10 h
        have hc10n0 := hc10
        by_cases hc12 : t2 = 1
        · replace h := if_t hc12 h
          refine lv_tableIn hx hb dPl_reply_32 (tgt := 66) (by rw [hc12]; decide) (by rw [hc12]; decide) (by rw [hc12] <;> rfl) rfl ?_
          refine lv_aload_n hx hb dPl_reply_66 rfl (lv_at hl 0 rfl) ?_
          replace h := ob h; obtain ⟨v13, ev13, h⟩ := h
          refine hq_get hx hb hts hown hW (gI_V ev13) (F_Pl_122 hts) dPl_reply_67 ?_
          refine lv_i2l hx hb dPl_reply_70 (v := v13.toInt64) rfl ?_
          exact hq_lret hx hb hr hlocks h (Nat.le_of_ble_eq_true rfl) (Nat.le_of_ble_eq_true rfl) hW dPl_reply_71
        · replace h := if_f hc12 h
          have hc12n0 := hc12
          by_cases hc14 : t2 = 2
          · replace h := if_t hc14 h
            refine lv_tableIn hx hb dPl_reply_32 (tgt := 72) (by rw [hc14]; decide) (by rw [hc14]; decide) (by rw [hc14] <;> rfl) rfl ?_
            refine lv_aload_n hx hb dPl_reply_72 rfl (lv_at hl 0 rfl) ?_
            replace h := ob h; obtain ⟨u15, eu15, h⟩ := h
            refine hq_get hx hb hts hown hW (gL_V eu15) (F_Pl_125 hts) dPl_reply_73 ?_
            exact hq_lret hx hb hr hlocks h (Nat.le_of_ble_eq_true rfl) (Nat.le_of_ble_eq_true rfl) hW dPl_reply_76
          · replace h := if_f hc14 h
            have hc14n0 := hc14
            refine lv_tableOut hx hb dPl_reply_32 (tgt := 77) (by have g0 := lv_neT hc10n0 (a := 0) rfl; have g1 := lv_neT hc12n0 (a := 1) rfl; have g2 := lv_neT hc14n0 (a := 2) rfl; omega) rfl ?_
            refine lv_ldc2 hx hb (v := (-1 : Int64)) hown (hts _ w_570) dPl_reply_77 ?_
            exact hq_lret hx hb hr hlocks h (Nat.le_of_ble_eq_true rfl) (Nat.le_of_ble_eq_true rfl) hW dPl_reply_80
  clear h; have h := e22; clear e22
  refine lv_if_lt hx hb dPl_reply_1 (tgt := 21) rfl (fun hc8 => ?_) (fun hc8 => ?_)
  · replace h := if_t hc8 h
    refine lv_null hx hb dPl_reply_21 ?_
    exact hJ22 _ (Option.some.inj h) _ _ _ (lv_sub hl [2] rfl) hW
  · replace h := if_f hc8 h
    refine lv_iload_n hx hb dPl_reply_4 rfl (lv_at hl 1 rfl) ?_
    refine lv_aload_n hx hb dPl_reply_5 rfl (lv_at hl 0 rfl) ?_
    replace h := ob h; obtain ⟨v3, ev3, h⟩ := h
    refine hq_get hx hb hts hown hW (gI_V ev3) (F_Pl_88 hts) dPl_reply_6 ?_
    refine lv_icmp_ge hx hb dPl_reply_9 (tgt := 21) rfl (fun hc7 => ?_) (fun hc7 => ?_)
    · replace h := if_t hc7 h
      refine lv_null hx hb dPl_reply_21 ?_
      exact hJ22 _ (Option.some.inj h) _ _ _ (lv_sub hl [2] rfl) hW
    · replace h := if_f hc7 h
      refine lv_aload_n hx hb dPl_reply_12 rfl (lv_at hl 0 rfl) ?_
      replace h := ob h; obtain ⟨r4, er4, h⟩ := h
      refine hq_get hx hb hts hown hW (gR_V er4) (F_Pl_27 hts) dPl_reply_13 ?_
      refine lv_iload_n hx hb dPl_reply_16 rfl (lv_at hl 1 rfl) ?_
      replace h := ob h; obtain ⟨a5, hra5, h⟩ := h
      subst hra5
      replace h := ob h; obtain ⟨r6, er6, h⟩ := h
      refine hq_aald hx hb hW er6 rfl dPl_reply_17 ?_
      refine lv_goto hx hb dPl_reply_18 (tgt := 22) rfl ?_
      exact hJ22 _ (Option.some.inj h) _ _ _ (lv_sub hl [2] rfl) hW
def fPl_line (t0 : Nat) (t1 : Int32) (t2 : Int32) (S : Ws) : Option (Int32 × Ws) :=
  (fPl_isLine t1 S).bind fun (v2, S1) => if v2 = 0 then some ((-1 : Int32), S1) else (gR S1 t0 [7] 1).bind fun r3 => (r3).bind fun a4 => (aR S1 a4 4 t1).bind fun r5 => if t2 = 0 then (r5).bind fun a7 => (gI S1 a7 [2] 4).bind fun v8 => some (v8, S1) else if t2 = 1 then (r5).bind fun a10 => (gI S1 a10 [2] 6).bind fun v11 => some (v11, S1) else if t2 = 2 then (r5).bind fun a13 => (gR S1 a13 [2] 5).bind fun r14 => oc r14 (some ((-1 : Int32), S1)) (fun a15 => (gR S1 a13 [2] 5).bind fun r16 => (r16).bind fun a17 => (gI S1 a17 [3, 4] 0).bind fun v18 => some (v18, S1)) else some ((-1 : Int32), S1)
set_option maxRecDepth 100000 in
set_option maxHeartbeats 4000000 in
theorem kPl_line (l : Launch) (D : va_G) (tc : Nat → ClassId) (b : Nat) (t0 : Nat) (t1 : Int32) (t2 : Int32) (S Sz : Ws) (rr : Int32) (h : fPl_line t0 t1 t2 S = some (rr, Sz)) : Met l yPl_line wsPl_line { frames := 2, cells := 0, slots := 0, locals := 80 } (va_Pc [.ref t0, .int t1, .int t2] (Wp D vwCl (hTy tc) b S)) (va_Qi (fun x (_ : Unit) => x = rr) (fun _ => Wp D vwCl (hTy tc) b Sz) (fun q => b ≤ q)) 0 0 (fun q => b ≤ q) := by
  refine hq_ofW (cc := cPl_line) (maxL := 4) (ret := (some .int)) (by decide) rfl (Nat.le_of_ble_eq_true rfl) fun p e s m args below meth c hx hb hr hts hown hlocks hnm hml H locs ls hl hW => ?_
  have hts : ∀ w ∈ lwG, w.before args s = true := fun w h => hts w (List.mem_cons_of_mem _ h)
  have hown : s.vm.findClass "SerialPlant" = some m.cls := hown
  have hl : lv_has ls 4 [(0, .ref t0), (1, .int t1), (2, .int t2)] := hl
  unfold fPl_line at h
  refine lv_iload_n hx hb dPl_line_0 rfl (lv_at hl 1 rfl) ?_
  replace h := ob h; obtain ⟨⟨v2, S1⟩, eS1, h⟩ := h
  refine hq_calli (ce := 0) (sl := 0) (va_runS (As := [.int t1]) (rest := []) ⟨hx, hb, hml, hown, hts⟩ (kPl_isLine l D tc b t1 S _ _ eS1) (cwS 1 hts GS_Pl_48 rfl rfl rfl hd_Pl_isLine_S_Pl ⟨Nat.le_of_ble_eq_true rfl, Nat.le_of_ble_eq_true rfl⟩) (hq_preS hW) rfl rfl hl.1 rfl (lv_room (by first | exact Nat.le_of_ble_eq_true rfl | (simp only [List.map, rf_cat]; exact Nat.le_of_ble_eq_true rfl))) dPl_line_1 ⟨Nat.le_of_ble_eq_true rfl, Nat.le_of_ble_eq_true rfl⟩) hW rfl rfl (fun H locs hW => ?_)
  refine lv_if_ne hx hb dPl_line_4 (tgt := 9) rfl (fun hc19 => ?_) (fun hc19 => ?_)
  · replace h := if_f hc19 h
    refine lv_aload_n hx hb dPl_line_9 rfl (lv_at hl 0 rfl) ?_
    replace h := ob h; obtain ⟨r3, er3, h⟩ := h
    refine hq_get hx hb hts hown hW (gR_V er3) (F_Pl_20 hts) dPl_line_10 ?_
    refine lv_iload_n hx hb dPl_line_13 rfl (lv_at hl 1 rfl) ?_
    replace h := ob h; obtain ⟨a4, hra4, h⟩ := h
    subst hra4
    replace h := ob h; obtain ⟨r5, er5, h⟩ := h
    refine hq_aald hx hb hW er5 rfl dPl_line_14 ?_
    refine hq_astore_n (x := r5) (lv' := [(3, va_rf r5), (0, .ref t0), (1, .int t1), (2, .int t2)]) hx hb dPl_line_15 rfl hl (Nat.le_of_ble_eq_true rfl) (by first | rfl | (simp [List.filter, rf_cat] <;> rfl)) (fun ls hl => ?_)
    refine lv_iload_n hx hb dPl_line_16 rfl (lv_at hl 3 rfl) ?_
    by_cases hc6 : t2 = 0
    · replace h := if_t hc6 h
      refine lv_tableIn hx hb dPl_line_17 (tgt := 44) (by rw [hc6]; decide) (by rw [hc6]; decide) (by rw [hc6] <;> rfl) rfl ?_
      refine hq_aload_n (x := r5) hx hb dPl_line_44 rfl (lv_at hl 0 rfl) ?_
      replace h := ob h; obtain ⟨a7, hra7, h⟩ := h
      subst hra7
      replace h := ob h; obtain ⟨v8, ev8, h⟩ := h
      refine hq_get hx hb hts hown hW (gI_V ev8) (F_Pl_129 hts) dPl_line_45 ?_
      exact hq_iret hx hb hr hlocks h (Nat.le_of_ble_eq_true rfl) (Nat.le_of_ble_eq_true rfl) hW dPl_line_48
    · replace h := if_f hc6 h
      have hc6n0 := hc6
      by_cases hc9 : t2 = 1
      · replace h := if_t hc9 h
        refine lv_tableIn hx hb dPl_line_17 (tgt := 49) (by rw [hc9]; decide) (by rw [hc9]; decide) (by rw [hc9] <;> rfl) rfl ?_
        refine hq_aload_n (x := r5) hx hb dPl_line_49 rfl (lv_at hl 0 rfl) ?_
        replace h := ob h; obtain ⟨a10, hra10, h⟩ := h
        subst hra10
        replace h := ob h; obtain ⟨v11, ev11, h⟩ := h
        refine hq_get hx hb hts hown hW (gI_V ev11) (F_Pl_132 hts) dPl_line_50 ?_
        exact hq_iret hx hb hr hlocks h (Nat.le_of_ble_eq_true rfl) (Nat.le_of_ble_eq_true rfl) hW dPl_line_53
      · replace h := if_f hc9 h
        have hc9n0 := hc9
        by_cases hc12 : t2 = 2
        · replace h := if_t hc12 h
          refine lv_tableIn hx hb dPl_line_17 (tgt := 54) (by rw [hc12]; decide) (by rw [hc12]; decide) (by rw [hc12] <;> rfl) rfl ?_
          refine hq_aload_n (x := r5) hx hb dPl_line_54 rfl (lv_at hl 0 rfl) ?_
          replace h := ob h; obtain ⟨a13, hra13, h⟩ := h
          subst hra13
          replace h := ob h; obtain ⟨r14, er14, h⟩ := h
          refine hq_get hx hb hts hown hW (gR_V er14) (F_Pl_135 hts) dPl_line_55 ?_
          refine hq_ifnonnull hx hb dPl_line_58 (tgt := 65) rfl (fun hc => ?_) (fun a15 hc => ?_)
          · subst hc
            replace h := oc_n h
            refine lv_iconst hx hb dPl_line_61 (v := (-1 : Int32)) rfl ?_
            refine lv_goto hx hb dPl_line_62 (tgt := 72) rfl ?_
            exact hq_iret hx hb hr hlocks h (Nat.le_of_ble_eq_true rfl) (Nat.le_of_ble_eq_true rfl) hW dPl_line_72
          · subst hc
            replace h := oc_s h
            refine lv_aload_n hx hb dPl_line_65 rfl (lv_at hl 0 rfl) ?_
            replace h := ob h; obtain ⟨r16, er16, h⟩ := h
            refine hq_get hx hb hts hown hW (gR_V er16) (F_Pl_135 hts) dPl_line_66 ?_
            replace h := ob h; obtain ⟨a17, hra17, h⟩ := h
            subst hra17
            replace h := ob h; obtain ⟨v18, ev18, h⟩ := h
            refine hq_get hx hb hts hown hW (gI_V ev18) (F_Pl_139 hts) dPl_line_69 ?_
            exact hq_iret hx hb hr hlocks h (Nat.le_of_ble_eq_true rfl) (Nat.le_of_ble_eq_true rfl) hW dPl_line_72
        · replace h := if_f hc12 h
          have hc12n0 := hc12
          refine lv_tableOut hx hb dPl_line_17 (tgt := 73) (by have g0 := lv_neT hc6n0 (a := 0) rfl; have g1 := lv_neT hc9n0 (a := 1) rfl; have g2 := lv_neT hc12n0 (a := 2) rfl; omega) rfl ?_
          refine lv_iconst hx hb dPl_line_73 (v := (-1 : Int32)) rfl ?_
          exact hq_iret hx hb hr hlocks h (Nat.le_of_ble_eq_true rfl) (Nat.le_of_ble_eq_true rfl) hW dPl_line_74
  · replace h := if_t hc19 h
    refine lv_iconst hx hb dPl_line_7 (v := (-1 : Int32)) rfl ?_
    exact hq_iret hx hb hr hlocks h (Nat.le_of_ble_eq_true rfl) (Nat.le_of_ble_eq_true rfl) hW dPl_line_8
def fPl_wire (t0 : Nat) (t1 : Int32) (t2 : Int32) (t3 : Int32) (S : Ws) : Option (Int32 × Ws) :=
  (fPl_isLine t1 S).bind fun (v2, S1) => if v2 = 0 then some ((-1 : Int32), S1) else (gR S1 t0 [7] 1).bind fun r3 => (r3).bind fun a4 => (aR S1 a4 4 t1).bind fun r5 => (r5).bind fun a6 => (gO S1 a6 [2]).bind fun q9 => (fLi_wayOf a6 t2 S1).bind fun (r8, S7) => (r8).bind fun a10 => (gR S7 a10 [6] 0).bind fun r11 => if t3 = (-1 : Int32) then (r11).bind fun a16 => (gI S7 a16 [0] 1).bind fun v17 => some (v17, S7) else (r11).bind fun a12 => (gO S7 a12 [0]).bind fun q15 => (fFr_byteAt a12 t3 S7).bind fun (v14, S13) => some (v14, S13)
set_option maxRecDepth 100000 in
set_option maxHeartbeats 4000000 in
theorem kPl_wire (l : Launch) (D : va_G) (tc : Nat → ClassId) (b : Nat) (t0 : Nat) (t1 : Int32) (t2 : Int32) (t3 : Int32) (S Sz : Ws) (rr : Int32) (h : fPl_wire t0 t1 t2 t3 S = some (rr, Sz)) : Met l yPl_wire wsPl_wire { frames := 2, cells := 0, slots := 0, locals := 80 } (va_Pc [.ref t0, .int t1, .int t2, .int t3] (Wp D vwCl (hTy tc) b S)) (va_Qi (fun x (_ : Unit) => x = rr) (fun _ => Wp D vwCl (hTy tc) b Sz) (fun q => b ≤ q)) 0 0 (fun q => b ≤ q) := by
  refine hq_ofW (cc := cPl_wire) (maxL := 5) (ret := (some .int)) (by decide) rfl (Nat.le_of_ble_eq_true rfl) fun p e s m args below meth c hx hb hr hts hown hlocks hnm hml H locs ls hl hW => ?_
  have hts : ∀ w ∈ lwG, w.before args s = true := fun w h => hts w (List.mem_cons_of_mem _ h)
  have hown : s.vm.findClass "SerialPlant" = some m.cls := hown
  have hl : lv_has ls 5 [(0, .ref t0), (1, .int t1), (2, .int t2), (3, .int t3)] := hl
  unfold fPl_wire at h
  refine lv_iload_n hx hb dPl_wire_0 rfl (lv_at hl 1 rfl) ?_
  replace h := ob h; obtain ⟨⟨v2, S1⟩, eS1, h⟩ := h
  refine hq_calli (ce := 0) (sl := 0) (va_runS (As := [.int t1]) (rest := []) ⟨hx, hb, hml, hown, hts⟩ (kPl_isLine l D tc b t1 S _ _ eS1) (cwS 1 hts GS_Pl_48 rfl rfl rfl hd_Pl_isLine_S_Pl ⟨Nat.le_of_ble_eq_true rfl, Nat.le_of_ble_eq_true rfl⟩) (hq_preS hW) rfl rfl hl.1 rfl (lv_room (by first | exact Nat.le_of_ble_eq_true rfl | (simp only [List.map, rf_cat]; exact Nat.le_of_ble_eq_true rfl))) dPl_wire_1 ⟨Nat.le_of_ble_eq_true rfl, Nat.le_of_ble_eq_true rfl⟩) hW rfl rfl (fun H locs hW => ?_)
  refine lv_if_ne hx hb dPl_wire_4 (tgt := 9) rfl (fun hc19 => ?_) (fun hc19 => ?_)
  · replace h := if_f hc19 h
    refine lv_aload_n hx hb dPl_wire_9 rfl (lv_at hl 0 rfl) ?_
    replace h := ob h; obtain ⟨r3, er3, h⟩ := h
    refine hq_get hx hb hts hown hW (gR_V er3) (F_Pl_20 hts) dPl_wire_10 ?_
    refine lv_iload_n hx hb dPl_wire_13 rfl (lv_at hl 1 rfl) ?_
    replace h := ob h; obtain ⟨a4, hra4, h⟩ := h
    subst hra4
    replace h := ob h; obtain ⟨r5, er5, h⟩ := h
    refine hq_aald hx hb hW er5 rfl dPl_wire_14 ?_
    refine lv_iload_n hx hb dPl_wire_15 rfl (lv_at hl 2 rfl) ?_
    replace h := ob h; obtain ⟨a6, hra6, h⟩ := h
    subst hra6
    replace h := ob h; obtain ⟨q9, eq9, h⟩ := h
    replace h := ob h; obtain ⟨⟨r8, S7⟩, eS7, h⟩ := h
    refine hq_callq (ce := 0) (sl := 0) (va_runV (As := [.int t2]) (rest := []) ⟨hx, hb, hml, hown, hts⟩ (kLi_wayOf l D tc b a6 t2 S1 _ _ eS7) (cwV 1 hts GV_Pl_98_Li rfl rfl rfl hd_Li_wayOf_V ⟨Nat.le_of_ble_eq_true rfl, Nat.le_of_ble_eq_true rfl⟩) (hq_preV1 hW eq9 rfl rfl) rfl rfl hl.1 rfl (lv_room (by first | exact Nat.le_of_ble_eq_true rfl | (simp only [List.map, rf_cat]; exact Nat.le_of_ble_eq_true rfl))) dPl_wire_16 ⟨Nat.le_of_ble_eq_true rfl, Nat.le_of_ble_eq_true rfl⟩) hW rfl rfl (fun H locs hW => ?_)
    replace h := ob h; obtain ⟨a10, hra10, h⟩ := h
    subst hra10
    replace h := ob h; obtain ⟨r11, er11, h⟩ := h
    refine hq_get hx hb hts hown hW (gR_V er11) (F_Pl_144 hts) dPl_wire_19 ?_
    refine hq_astore (x := r11) (lv' := [(4, va_rf r11), (0, .ref t0), (1, .int t1), (2, .int t2), (3, .int t3)]) hx hb dPl_wire_22 hl (Nat.le_of_ble_eq_true rfl) (by first | rfl | (simp [List.filter, rf_cat] <;> rfl)) (fun ls hl => ?_)
    refine lv_iload_n hx hb dPl_wire_24 rfl (lv_at hl 4 rfl) ?_
    refine lv_iconst hx hb dPl_wire_25 (v := (-1 : Int32)) rfl ?_
    refine lv_icmp_ne hx hb dPl_wire_26 (tgt := 37) rfl (fun hc18 => ?_) (fun hc18 => ?_)
    · replace h := if_f hc18 h
      refine hq_aload (x := r11) hx hb dPl_wire_37 (lv_at hl 0 rfl) ?_
      refine lv_iload_n hx hb dPl_wire_39 rfl (lv_at hl 4 rfl) ?_
      replace h := ob h; obtain ⟨a12, hra12, h⟩ := h
      subst hra12
      replace h := ob h; obtain ⟨q15, eq15, h⟩ := h
      replace h := ob h; obtain ⟨⟨v14, S13⟩, eS13, h⟩ := h
      refine hq_calli (ce := 0) (sl := 0) (va_runV (As := [.int t3]) (rest := []) ⟨hx, hb, hml, hown, hts⟩ (kFr_byteAt l D tc b a12 t3 S7 _ _ eS13) (cwV 1 hts GV_Pl_153_Fr rfl rfl rfl hd_Fr_byteAt_V ⟨Nat.le_of_ble_eq_true rfl, Nat.le_of_ble_eq_true rfl⟩) (hq_preV1 hW eq15 rfl rfl) rfl rfl hl.1 rfl (lv_room (by first | exact Nat.le_of_ble_eq_true rfl | (simp only [List.map, rf_cat]; exact Nat.le_of_ble_eq_true rfl))) dPl_wire_40 ⟨Nat.le_of_ble_eq_true rfl, Nat.le_of_ble_eq_true rfl⟩) hW rfl rfl (fun H locs hW => ?_)
      exact hq_iret hx hb hr hlocks h (Nat.le_of_ble_eq_true rfl) (Nat.le_of_ble_eq_true rfl) hW dPl_wire_43
    · replace h := if_t hc18 h
      refine hq_aload (x := r11) hx hb dPl_wire_29 (lv_at hl 0 rfl) ?_
      replace h := ob h; obtain ⟨a16, hra16, h⟩ := h
      subst hra16
      replace h := ob h; obtain ⟨v17, ev17, h⟩ := h
      refine hq_get hx hb hts hown hW (gI_V ev17) (F_Pl_148 hts) dPl_wire_31 ?_
      refine lv_goto hx hb dPl_wire_34 (tgt := 43) rfl ?_
      exact hq_iret hx hb hr hlocks h (Nat.le_of_ble_eq_true rfl) (Nat.le_of_ble_eq_true rfl) hW dPl_wire_43
  · replace h := if_t hc19 h
    refine lv_iconst hx hb dPl_wire_7 (v := (-1 : Int32)) rfl ?_
    exact hq_iret hx hb hr hlocks h (Nat.le_of_ble_eq_true rfl) (Nat.le_of_ble_eq_true rfl) hW dPl_wire_8
def fPl_sample (t0 : Nat) (t1 : Int32) (t2 : Int32) (S : Ws) : Option (Int32 × Ws) :=
  (gR S t0 [7] 4).bind fun r1 => (r1).bind fun a2 => (gO S a2 [1]).bind fun q5 => (fHi_part a2 t1 t2 S).bind fun (v4, S3) => some (v4, S3)
set_option maxRecDepth 100000 in
set_option maxHeartbeats 4000000 in
theorem kPl_sample (l : Launch) (D : va_G) (tc : Nat → ClassId) (b : Nat) (t0 : Nat) (t1 : Int32) (t2 : Int32) (S Sz : Ws) (rr : Int32) (h : fPl_sample t0 t1 t2 S = some (rr, Sz)) : Met l yPl_sample wsPl_sample { frames := 2, cells := 0, slots := 0, locals := 80 } (va_Pc [.ref t0, .int t1, .int t2] (Wp D vwCl (hTy tc) b S)) (va_Qi (fun x (_ : Unit) => x = rr) (fun _ => Wp D vwCl (hTy tc) b Sz) (fun q => b ≤ q)) 0 0 (fun q => b ≤ q) := by
  refine hq_ofW (cc := cPl_sample) (maxL := 3) (ret := (some .int)) (by decide) rfl (Nat.le_of_ble_eq_true rfl) fun p e s m args below meth c hx hb hr hts hown hlocks hnm hml H locs ls hl hW => ?_
  have hts : ∀ w ∈ lwG, w.before args s = true := fun w h => hts w (List.mem_cons_of_mem _ h)
  have hown : s.vm.findClass "SerialPlant" = some m.cls := hown
  have hl : lv_has ls 3 [(0, .ref t0), (1, .int t1), (2, .int t2)] := hl
  unfold fPl_sample at h
  refine lv_aload_n hx hb dPl_sample_0 rfl (lv_at hl 0 rfl) ?_
  replace h := ob h; obtain ⟨r1, er1, h⟩ := h
  refine hq_get hx hb hts hown hW (gR_V er1) (F_Pl_40 hts) dPl_sample_1 ?_
  refine lv_iload_n hx hb dPl_sample_4 rfl (lv_at hl 1 rfl) ?_
  refine lv_iload_n hx hb dPl_sample_5 rfl (lv_at hl 2 rfl) ?_
  replace h := ob h; obtain ⟨a2, hra2, h⟩ := h
  subst hra2
  replace h := ob h; obtain ⟨q5, eq5, h⟩ := h
  replace h := ob h; obtain ⟨⟨v4, S3⟩, eS3, h⟩ := h
  refine hq_calli (ce := 0) (sl := 0) (va_runV (As := [.int t1, .int t2]) (rest := []) ⟨hx, hb, hml, hown, hts⟩ (kHi_part l D tc b a2 t1 t2 S _ _ eS3) (cwV 2 hts GV_Pl_157_Hi rfl rfl rfl hd_Hi_part_V ⟨Nat.le_of_ble_eq_true rfl, Nat.le_of_ble_eq_true rfl⟩) (hq_preV1 hW eq5 rfl rfl) rfl rfl hl.1 rfl (lv_room (by first | exact Nat.le_of_ble_eq_true rfl | (simp only [List.map, rf_cat]; exact Nat.le_of_ble_eq_true rfl))) dPl_sample_6 ⟨Nat.le_of_ble_eq_true rfl, Nat.le_of_ble_eq_true rfl⟩) hW rfl rfl (fun H locs hW => ?_)
  exact hq_iret hx hb hr hlocks h (Nat.le_of_ble_eq_true rfl) (Nat.le_of_ble_eq_true rfl) hW dPl_sample_9
def fPl_samples (t0 : Nat) (t1 : Int32) (t2 : Int32) (t3 : Int32) (S : Ws) : Option (Int32 × Ws) :=
  (gR S t0 [7] 4).bind fun r1 => (r1).bind fun a2 => (gO S a2 [1]).bind fun q5 => (fHi_countOf a2 t1 t2 t3 S).bind fun (v4, S3) => some (v4, S3)
set_option maxRecDepth 100000 in
set_option maxHeartbeats 4000000 in
theorem kPl_samples (l : Launch) (D : va_G) (tc : Nat → ClassId) (b : Nat) (t0 : Nat) (t1 : Int32) (t2 : Int32) (t3 : Int32) (S Sz : Ws) (rr : Int32) (h : fPl_samples t0 t1 t2 t3 S = some (rr, Sz)) : Met l yPl_samples wsPl_samples { frames := 2, cells := 0, slots := 0, locals := 80 } (va_Pc [.ref t0, .int t1, .int t2, .int t3] (Wp D vwCl (hTy tc) b S)) (va_Qi (fun x (_ : Unit) => x = rr) (fun _ => Wp D vwCl (hTy tc) b Sz) (fun q => b ≤ q)) 0 0 (fun q => b ≤ q) := by
  refine hq_ofW (cc := cPl_samples) (maxL := 4) (ret := (some .int)) (by decide) rfl (Nat.le_of_ble_eq_true rfl) fun p e s m args below meth c hx hb hr hts hown hlocks hnm hml H locs ls hl hW => ?_
  have hts : ∀ w ∈ lwG, w.before args s = true := fun w h => hts w (List.mem_cons_of_mem _ h)
  have hown : s.vm.findClass "SerialPlant" = some m.cls := hown
  have hl : lv_has ls 4 [(0, .ref t0), (1, .int t1), (2, .int t2), (3, .int t3)] := hl
  unfold fPl_samples at h
  refine lv_aload_n hx hb dPl_samples_0 rfl (lv_at hl 0 rfl) ?_
  replace h := ob h; obtain ⟨r1, er1, h⟩ := h
  refine hq_get hx hb hts hown hW (gR_V er1) (F_Pl_40 hts) dPl_samples_1 ?_
  refine lv_iload_n hx hb dPl_samples_4 rfl (lv_at hl 1 rfl) ?_
  refine lv_iload_n hx hb dPl_samples_5 rfl (lv_at hl 2 rfl) ?_
  refine lv_iload_n hx hb dPl_samples_6 rfl (lv_at hl 3 rfl) ?_
  replace h := ob h; obtain ⟨a2, hra2, h⟩ := h
  subst hra2
  replace h := ob h; obtain ⟨q5, eq5, h⟩ := h
  replace h := ob h; obtain ⟨⟨v4, S3⟩, eS3, h⟩ := h
  refine hq_calli (ce := 0) (sl := 0) (va_runV (As := [.int t1, .int t2, .int t3]) (rest := []) ⟨hx, hb, hml, hown, hts⟩ (kHi_countOf l D tc b a2 t1 t2 t3 S _ _ eS3) (cwV 3 hts GV_Pl_161_Hi rfl rfl rfl hd_Hi_countOf_V ⟨Nat.le_of_ble_eq_true rfl, Nat.le_of_ble_eq_true rfl⟩) (hq_preV1 hW eq5 rfl rfl) rfl rfl hl.1 rfl (lv_room (by first | exact Nat.le_of_ble_eq_true rfl | (simp only [List.map, rf_cat]; exact Nat.le_of_ble_eq_true rfl))) dPl_samples_7 ⟨Nat.le_of_ble_eq_true rfl, Nat.le_of_ble_eq_true rfl⟩) hW rfl rfl (fun H locs hW => ?_)
  exact hq_iret hx hb hr hlocks h (Nat.le_of_ble_eq_true rfl) (Nat.le_of_ble_eq_true rfl) hW dPl_samples_10
