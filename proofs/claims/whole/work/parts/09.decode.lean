/-! the instructions (by program gen2.py) -/
theorem dB_openWhole_0 : decode bB_openWhole 0 = .ok (.aload_n 0, 1) := by decide +kernel
theorem dB_openWhole_1 : decode bB_openWhole 1 = .ok (.aload_n 1, 1) := by decide +kernel
theorem dB_openWhole_2 : decode bB_openWhole 2 = .ok (.getfield 45, 3) := by decide +kernel
theorem dB_openWhole_5 : decode bB_openWhole 5 = .ok (.aload_n 1, 1) := by decide +kernel
theorem dB_openWhole_6 : decode bB_openWhole 6 = .ok (.getfield 51, 3) := by decide +kernel
theorem dB_openWhole_9 : decode bB_openWhole 9 = .ok (.iload_n 2, 1) := by decide +kernel
theorem dB_openWhole_10 : decode bB_openWhole 10 = .ok (.invokevirtual 54, 3) := by decide +kernel
theorem dB_openWhole_13 : decode bB_openWhole 13 = .ok (.iconst 0, 1) := by decide +kernel
theorem dB_openWhole_14 : decode bB_openWhole 14 = .ok (.istore_n 3, 1) := by decide +kernel
theorem dB_openWhole_15 : decode bB_openWhole 15 = .ok (.iload_n 3, 1) := by decide +kernel
theorem dB_openWhole_16 : decode bB_openWhole 16 = .ok (.aload_n 0, 1) := by decide +kernel
theorem dB_openWhole_17 : decode bB_openWhole 17 = .ok (.getfield 41, 3) := by decide +kernel
theorem dB_openWhole_20 : decode bB_openWhole 20 = .ok (.getfield 58, 3) := by decide +kernel
theorem dB_openWhole_23 : decode bB_openWhole 23 = .ok (.if_icmp .ge 24, 3) := by decide +kernel
theorem dB_openWhole_26 : decode bB_openWhole 26 = .ok (.aload_n 0, 1) := by decide +kernel
theorem dB_openWhole_27 : decode bB_openWhole 27 = .ok (.getfield 9, 3) := by decide +kernel
theorem dB_openWhole_30 : decode bB_openWhole 30 = .ok (.iload_n 3, 1) := by decide +kernel
theorem dB_openWhole_31 : decode bB_openWhole 31 = .ok (.aload_n 0, 1) := by decide +kernel
theorem dB_openWhole_32 : decode bB_openWhole 32 = .ok (.getfield 41, 3) := by decide +kernel
theorem dB_openWhole_35 : decode bB_openWhole 35 = .ok (.getfield 63, 3) := by decide +kernel
theorem dB_openWhole_38 : decode bB_openWhole 38 = .ok (.iload_n 3, 1) := by decide +kernel
theorem dB_openWhole_39 : decode bB_openWhole 39 = .ok (.iaload, 1) := by decide +kernel
theorem dB_openWhole_40 : decode bB_openWhole 40 = .ok (.iastore, 1) := by decide +kernel
theorem dB_openWhole_41 : decode bB_openWhole 41 = .ok (.iinc 3 1, 3) := by decide +kernel
theorem dB_openWhole_44 : decode bB_openWhole 44 = .ok (.goto (-29), 3) := by decide +kernel
theorem dB_openWhole_47 : decode bB_openWhole 47 = .ok (.return_, 1) := by decide +kernel
theorem dB_openFront_0 : decode bB_openFront 0 = .ok (.aload_n 0, 1) := by decide +kernel
theorem dB_openFront_1 : decode bB_openFront 1 = .ok (.aload_n 1, 1) := by decide +kernel
theorem dB_openFront_2 : decode bB_openFront 2 = .ok (.iload_n 2, 1) := by decide +kernel
theorem dB_openFront_3 : decode bB_openFront 3 = .ok (.invokevirtual 64, 3) := by decide +kernel
theorem dB_openFront_6 : decode bB_openFront 6 = .ok (.aload_n 0, 1) := by decide +kernel
theorem dB_openFront_7 : decode bB_openFront 7 = .ok (.aload_n 1, 1) := by decide +kernel
theorem dB_openFront_8 : decode bB_openFront 8 = .ok (.invokevirtual 68, 3) := by decide +kernel
theorem dB_openFront_11 : decode bB_openFront 11 = .ok (.putfield 72, 3) := by decide +kernel
theorem dB_openFront_14 : decode bB_openFront 14 = .ok (.return_, 1) := by decide +kernel
theorem dB_openBack_0 : decode bB_openBack 0 = .ok (.aload_n 0, 1) := by decide +kernel
theorem dB_openBack_1 : decode bB_openBack 1 = .ok (.aload_n 1, 1) := by decide +kernel
theorem dB_openBack_2 : decode bB_openBack 2 = .ok (.getfield 45, 3) := by decide +kernel
theorem dB_openBack_5 : decode bB_openBack 5 = .ok (.aload_n 1, 1) := by decide +kernel
theorem dB_openBack_6 : decode bB_openBack 6 = .ok (.invokevirtual 68, 3) := by decide +kernel
theorem dB_openBack_9 : decode bB_openBack 9 = .ok (.isub, 1) := by decide +kernel
theorem dB_openBack_10 : decode bB_openBack 10 = .ok (.aload_n 1, 1) := by decide +kernel
theorem dB_openBack_11 : decode bB_openBack 11 = .ok (.getfield 51, 3) := by decide +kernel
theorem dB_openBack_14 : decode bB_openBack 14 = .ok (.iload_n 2, 1) := by decide +kernel
theorem dB_openBack_15 : decode bB_openBack 15 = .ok (.invokevirtual 54, 3) := by decide +kernel
theorem dB_openBack_18 : decode bB_openBack 18 = .ok (.iconst 0, 1) := by decide +kernel
theorem dB_openBack_19 : decode bB_openBack 19 = .ok (.istore_n 3, 1) := by decide +kernel
theorem dB_openBack_20 : decode bB_openBack 20 = .ok (.iload_n 3, 1) := by decide +kernel
theorem dB_openBack_21 : decode bB_openBack 21 = .ok (.aload_n 0, 1) := by decide +kernel
theorem dB_openBack_22 : decode bB_openBack 22 = .ok (.getfield 41, 3) := by decide +kernel
theorem dB_openBack_25 : decode bB_openBack 25 = .ok (.getfield 58, 3) := by decide +kernel
theorem dB_openBack_28 : decode bB_openBack 28 = .ok (.if_icmp .ge 31, 3) := by decide +kernel
theorem dB_openBack_31 : decode bB_openBack 31 = .ok (.aload_n 0, 1) := by decide +kernel
theorem dB_openBack_32 : decode bB_openBack 32 = .ok (.getfield 9, 3) := by decide +kernel
theorem dB_openBack_35 : decode bB_openBack 35 = .ok (.iload_n 3, 1) := by decide +kernel
theorem dB_openBack_36 : decode bB_openBack 36 = .ok (.aload_n 1, 1) := by decide +kernel
theorem dB_openBack_37 : decode bB_openBack 37 = .ok (.getfield 45, 3) := by decide +kernel
theorem dB_openBack_40 : decode bB_openBack 40 = .ok (.iconst 1, 1) := by decide +kernel
theorem dB_openBack_41 : decode bB_openBack 41 = .ok (.isub, 1) := by decide +kernel
theorem dB_openBack_42 : decode bB_openBack 42 = .ok (.aload_n 0, 1) := by decide +kernel
theorem dB_openBack_43 : decode bB_openBack 43 = .ok (.getfield 41, 3) := by decide +kernel
theorem dB_openBack_46 : decode bB_openBack 46 = .ok (.getfield 63, 3) := by decide +kernel
theorem dB_openBack_49 : decode bB_openBack 49 = .ok (.iload_n 3, 1) := by decide +kernel
theorem dB_openBack_50 : decode bB_openBack 50 = .ok (.iaload, 1) := by decide +kernel
theorem dB_openBack_51 : decode bB_openBack 51 = .ok (.isub, 1) := by decide +kernel
theorem dB_openBack_52 : decode bB_openBack 52 = .ok (.iastore, 1) := by decide +kernel
theorem dB_openBack_53 : decode bB_openBack 53 = .ok (.iinc 3 1, 3) := by decide +kernel
theorem dB_openBack_56 : decode bB_openBack 56 = .ok (.goto (-36), 3) := by decide +kernel
theorem dB_openBack_59 : decode bB_openBack 59 = .ok (.return_, 1) := by decide +kernel
theorem dB_open_0 : decode bB_open 0 = .ok (.aload_n 0, 1) := by decide +kernel
theorem dB_open_1 : decode bB_open 1 = .ok (.iload_n 1, 1) := by decide +kernel
theorem dB_open_2 : decode bB_open 2 = .ok (.putfield 72, 3) := by decide +kernel
theorem dB_open_5 : decode bB_open 5 = .ok (.aload_n 0, 1) := by decide +kernel
theorem dB_open_6 : decode bB_open 6 = .ok (.iload_n 2, 1) := by decide +kernel
theorem dB_open_7 : decode bB_open 7 = .ok (.putfield 73, 3) := by decide +kernel
theorem dB_open_10 : decode bB_open 10 = .ok (.iconst 0, 1) := by decide +kernel
theorem dB_open_11 : decode bB_open 11 = .ok (.istore 4, 2) := by decide +kernel
theorem dB_open_13 : decode bB_open 13 = .ok (.iload 4, 2) := by decide +kernel
theorem dB_open_15 : decode bB_open 15 = .ok (.aload_n 0, 1) := by decide +kernel
theorem dB_open_16 : decode bB_open 16 = .ok (.getfield 41, 3) := by decide +kernel
theorem dB_open_19 : decode bB_open 19 = .ok (.getfield 58, 3) := by decide +kernel
theorem dB_open_22 : decode bB_open 22 = .ok (.if_icmp .ge 30, 3) := by decide +kernel
theorem dB_open_25 : decode bB_open 25 = .ok (.aload_n 0, 1) := by decide +kernel
theorem dB_open_26 : decode bB_open 26 = .ok (.getfield 15, 3) := by decide +kernel
theorem dB_open_29 : decode bB_open 29 = .ok (.iload 4, 2) := by decide +kernel
theorem dB_open_31 : decode bB_open 31 = .ok (.aload_n 0, 1) := by decide +kernel
theorem dB_open_32 : decode bB_open 32 = .ok (.getfield 41, 3) := by decide +kernel
theorem dB_open_35 : decode bB_open 35 = .ok (.getfield 74, 3) := by decide +kernel
theorem dB_open_38 : decode bB_open 38 = .ok (.iload 4, 2) := by decide +kernel
theorem dB_open_40 : decode bB_open 40 = .ok (.iaload, 1) := by decide +kernel
theorem dB_open_41 : decode bB_open 41 = .ok (.iload_n 3, 1) := by decide +kernel
theorem dB_open_42 : decode bB_open 42 = .ok (.invokestatic 75, 3) := by decide +kernel
theorem dB_open_45 : decode bB_open 45 = .ok (.iastore, 1) := by decide +kernel
theorem dB_open_46 : decode bB_open 46 = .ok (.iinc 4 1, 3) := by decide +kernel
theorem dB_open_49 : decode bB_open 49 = .ok (.goto (-36), 3) := by decide +kernel
theorem dB_open_52 : decode bB_open 52 = .ok (.return_, 1) := by decide +kernel
theorem dB_isThrough_0 : decode bB_isThrough 0 = .ok (.aload_n 0, 1) := by decide +kernel
theorem dB_isThrough_1 : decode bB_isThrough 1 = .ok (.aload_n 1, 1) := by decide +kernel
theorem dB_isThrough_2 : decode bB_isThrough 2 = .ok (.iload_n 2, 1) := by decide +kernel
theorem dB_isThrough_3 : decode bB_isThrough 3 = .ok (.invokevirtual 81, 3) := by decide +kernel
theorem dB_isThrough_6 : decode bB_isThrough 6 = .ok (.aload_n 0, 1) := by decide +kernel
theorem dB_isThrough_7 : decode bB_isThrough 7 = .ok (.getfield 85, 3) := by decide +kernel
theorem dB_isThrough_10 : decode bB_isThrough 10 = .ok (.aload_n 0, 1) := by decide +kernel
theorem dB_isThrough_11 : decode bB_isThrough 11 = .ok (.getfield 88, 3) := by decide +kernel
theorem dB_isThrough_14 : decode bB_isThrough 14 = .ok (.if_icmp .ne 7, 3) := by decide +kernel
theorem dB_isThrough_17 : decode bB_isThrough 17 = .ok (.iconst 1, 1) := by decide +kernel
theorem dB_isThrough_18 : decode bB_isThrough 18 = .ok (.goto 4, 3) := by decide +kernel
theorem dB_isThrough_21 : decode bB_isThrough 21 = .ok (.iconst 0, 1) := by decide +kernel
theorem dB_isThrough_22 : decode bB_isThrough 22 = .ok (.ireturn, 1) := by decide +kernel
theorem dB_run_0 : decode bB_run 0 = .ok (.aload_n 0, 1) := by decide +kernel
theorem dB_run_1 : decode bB_run 1 = .ok (.aload_n 1, 1) := by decide +kernel
theorem dB_run_2 : decode bB_run 2 = .ok (.invokevirtual 91, 3) := by decide +kernel
theorem dB_run_5 : decode bB_run 5 = .ok (.iconst 0, 1) := by decide +kernel
theorem dB_run_6 : decode bB_run 6 = .ok (.istore_n 3, 1) := by decide +kernel
theorem dB_run_7 : decode bB_run 7 = .ok (.iload_n 2, 1) := by decide +kernel
theorem dB_run_8 : decode bB_run 8 = .ok (.sipush 9999, 3) := by decide +kernel
theorem dB_run_11 : decode bB_run 11 = .ok (.invokestatic 75, 3) := by decide +kernel
theorem dB_run_14 : decode bB_run 14 = .ok (.istore 4, 2) := by decide +kernel
theorem dB_run_16 : decode bB_run 16 = .ok (.iconst 1, 1) := by decide +kernel
theorem dB_run_17 : decode bB_run 17 = .ok (.istore 5, 2) := by decide +kernel
theorem dB_run_19 : decode bB_run 19 = .ok (.iload 5, 2) := by decide +kernel
theorem dB_run_21 : decode bB_run 21 = .ok (.iload 4, 2) := by decide +kernel
theorem dB_run_23 : decode bB_run 23 = .ok (.if_icmp .gt 59, 3) := by decide +kernel
theorem dB_run_26 : decode bB_run 26 = .ok (.aload_n 0, 1) := by decide +kernel
theorem dB_run_27 : decode bB_run 27 = .ok (.getfield 85, 3) := by decide +kernel
theorem dB_run_30 : decode bB_run 30 = .ok (.aload_n 0, 1) := by decide +kernel
theorem dB_run_31 : decode bB_run 31 = .ok (.getfield 88, 3) := by decide +kernel
theorem dB_run_34 : decode bB_run 34 = .ok (.if_icmp .ge 48, 3) := by decide +kernel
theorem dB_run_37 : decode bB_run 37 = .ok (.aload_n 0, 1) := by decide +kernel
theorem dB_run_38 : decode bB_run 38 = .ok (.iload 5, 2) := by decide +kernel
theorem dB_run_40 : decode bB_run 40 = .ok (.invokevirtual 95, 3) := by decide +kernel
theorem dB_run_43 : decode bB_run 43 = .ok (.iload_n 3, 1) := by decide +kernel
theorem dB_run_44 : decode bB_run 44 = .ok (.aload_n 0, 1) := by decide +kernel
theorem dB_run_45 : decode bB_run 45 = .ok (.getfield 88, 3) := by decide +kernel
theorem dB_run_48 : decode bB_run 48 = .ok (.if_icmp .ge 28, 3) := by decide +kernel
theorem dB_run_51 : decode bB_run 51 = .ok (.aload_n 0, 1) := by decide +kernel
theorem dB_run_52 : decode bB_run 52 = .ok (.getfield 38, 3) := by decide +kernel
theorem dB_run_55 : decode bB_run 55 = .ok (.iconst 0, 1) := by decide +kernel
theorem dB_run_56 : decode bB_run 56 = .ok (.iaload, 1) := by decide +kernel
theorem dB_run_57 : decode bB_run 57 = .ok (.iconst (-1), 1) := by decide +kernel
theorem dB_run_58 : decode bB_run 58 = .ok (.if_icmp .ne 18, 3) := by decide +kernel
theorem dB_run_61 : decode bB_run 61 = .ok (.aload_n 0, 1) := by decide +kernel
theorem dB_run_62 : decode bB_run 62 = .ok (.getfield 38, 3) := by decide +kernel
theorem dB_run_65 : decode bB_run 65 = .ok (.iconst 0, 1) := by decide +kernel
theorem dB_run_66 : decode bB_run 66 = .ok (.aload_n 0, 1) := by decide +kernel
theorem dB_run_67 : decode bB_run 67 = .ok (.getfield 18, 3) := by decide +kernel
theorem dB_run_70 : decode bB_run 70 = .ok (.iload_n 3, 1) := by decide +kernel
theorem dB_run_71 : decode bB_run 71 = .ok (.iaload, 1) := by decide +kernel
theorem dB_run_72 : decode bB_run 72 = .ok (.iastore, 1) := by decide +kernel
theorem dB_run_73 : decode bB_run 73 = .ok (.iinc 3 1, 3) := by decide +kernel
theorem dB_run_76 : decode bB_run 76 = .ok (.iinc 5 1, 3) := by decide +kernel
theorem dB_run_79 : decode bB_run 79 = .ok (.goto (-60), 3) := by decide +kernel
theorem dB_run_82 : decode bB_run 82 = .ok (.return_, 1) := by decide +kernel
theorem dB_begin_0 : decode bB_begin 0 = .ok (.aload_n 0, 1) := by decide +kernel
theorem dB_begin_1 : decode bB_begin 1 = .ok (.iconst 0, 1) := by decide +kernel
theorem dB_begin_2 : decode bB_begin 2 = .ok (.putfield 88, 3) := by decide +kernel
theorem dB_begin_5 : decode bB_begin 5 = .ok (.aload_n 0, 1) := by decide +kernel
theorem dB_begin_6 : decode bB_begin 6 = .ok (.iconst 0, 1) := by decide +kernel
theorem dB_begin_7 : decode bB_begin 7 = .ok (.putfield 85, 3) := by decide +kernel
theorem dB_begin_10 : decode bB_begin 10 = .ok (.aload_n 0, 1) := by decide +kernel
theorem dB_begin_11 : decode bB_begin 11 = .ok (.iconst 0, 1) := by decide +kernel
theorem dB_begin_12 : decode bB_begin 12 = .ok (.putfield 99, 3) := by decide +kernel
theorem dB_begin_15 : decode bB_begin 15 = .ok (.aload_n 0, 1) := by decide +kernel
theorem dB_begin_16 : decode bB_begin 16 = .ok (.iconst 0, 1) := by decide +kernel
theorem dB_begin_17 : decode bB_begin 17 = .ok (.putfield 102, 3) := by decide +kernel
theorem dB_begin_20 : decode bB_begin 20 = .ok (.iconst 0, 1) := by decide +kernel
theorem dB_begin_21 : decode bB_begin 21 = .ok (.istore_n 2, 1) := by decide +kernel
theorem dB_begin_22 : decode bB_begin 22 = .ok (.iload_n 2, 1) := by decide +kernel
theorem dB_begin_23 : decode bB_begin 23 = .ok (.bipush 12, 2) := by decide +kernel
theorem dB_begin_25 : decode bB_begin 25 = .ok (.if_icmp .ge 26, 3) := by decide +kernel
theorem dB_begin_28 : decode bB_begin 28 = .ok (.aload_n 0, 1) := by decide +kernel
theorem dB_begin_29 : decode bB_begin 29 = .ok (.getfield 38, 3) := by decide +kernel
theorem dB_begin_32 : decode bB_begin 32 = .ok (.iload_n 2, 1) := by decide +kernel
theorem dB_begin_33 : decode bB_begin 33 = .ok (.iconst (-1), 1) := by decide +kernel
theorem dB_begin_34 : decode bB_begin 34 = .ok (.iastore, 1) := by decide +kernel
theorem dB_begin_35 : decode bB_begin 35 = .ok (.aload_n 0, 1) := by decide +kernel
theorem dB_begin_36 : decode bB_begin 36 = .ok (.getfield 21, 3) := by decide +kernel
theorem dB_begin_39 : decode bB_begin 39 = .ok (.iload_n 2, 1) := by decide +kernel
theorem dB_begin_40 : decode bB_begin 40 = .ok (.aload_n 0, 1) := by decide +kernel
theorem dB_begin_41 : decode bB_begin 41 = .ok (.getfield 73, 3) := by decide +kernel
theorem dB_begin_44 : decode bB_begin 44 = .ok (.iastore, 1) := by decide +kernel
theorem dB_begin_45 : decode bB_begin 45 = .ok (.iinc 2 1, 3) := by decide +kernel
theorem dB_begin_48 : decode bB_begin 48 = .ok (.goto (-26), 3) := by decide +kernel
theorem dB_begin_51 : decode bB_begin 51 = .ok (.iconst 0, 1) := by decide +kernel
theorem dB_begin_52 : decode bB_begin 52 = .ok (.istore_n 2, 1) := by decide +kernel
theorem dB_begin_53 : decode bB_begin 53 = .ok (.iload_n 2, 1) := by decide +kernel
theorem dB_begin_54 : decode bB_begin 54 = .ok (.aload_n 1, 1) := by decide +kernel
theorem dB_begin_55 : decode bB_begin 55 = .ok (.getfield 105, 3) := by decide +kernel
theorem dB_begin_58 : decode bB_begin 58 = .ok (.if_icmp .ge 95, 3) := by decide +kernel
theorem dB_begin_61 : decode bB_begin 61 = .ok (.aload_n 1, 1) := by decide +kernel
theorem dB_begin_62 : decode bB_begin 62 = .ok (.getfield 108, 3) := by decide +kernel
theorem dB_begin_65 : decode bB_begin 65 = .ok (.iload_n 2, 1) := by decide +kernel
theorem dB_begin_66 : decode bB_begin 66 = .ok (.iaload, 1) := by decide +kernel
theorem dB_begin_67 : decode bB_begin 67 = .ok (.istore_n 3, 1) := by decide +kernel
theorem dB_begin_68 : decode bB_begin 68 = .ok (.aload_n 0, 1) := by decide +kernel
theorem dB_begin_69 : decode bB_begin 69 = .ok (.getfield 24, 3) := by decide +kernel
theorem dB_begin_72 : decode bB_begin 72 = .ok (.iload_n 3, 1) := by decide +kernel
theorem dB_begin_73 : decode bB_begin 73 = .ok (.iconst 0, 1) := by decide +kernel
theorem dB_begin_74 : decode bB_begin 74 = .ok (.iastore, 1) := by decide +kernel
theorem dB_begin_75 : decode bB_begin 75 = .ok (.aload_n 0, 1) := by decide +kernel
theorem dB_begin_76 : decode bB_begin 76 = .ok (.getfield 27, 3) := by decide +kernel
theorem dB_begin_79 : decode bB_begin 79 = .ok (.iload_n 3, 1) := by decide +kernel
theorem dB_begin_80 : decode bB_begin 80 = .ok (.iconst 0, 1) := by decide +kernel
theorem dB_begin_81 : decode bB_begin 81 = .ok (.iastore, 1) := by decide +kernel
theorem dB_begin_82 : decode bB_begin 82 = .ok (.aload_n 0, 1) := by decide +kernel
theorem dB_begin_83 : decode bB_begin 83 = .ok (.getfield 30, 3) := by decide +kernel
theorem dB_begin_86 : decode bB_begin 86 = .ok (.iload_n 3, 1) := by decide +kernel
theorem dB_begin_87 : decode bB_begin 87 = .ok (.iconst 0, 1) := by decide +kernel
theorem dB_begin_88 : decode bB_begin 88 = .ok (.iastore, 1) := by decide +kernel
theorem dB_begin_89 : decode bB_begin 89 = .ok (.iconst 0, 1) := by decide +kernel
theorem dB_begin_90 : decode bB_begin 90 = .ok (.istore 4, 2) := by decide +kernel
theorem dB_begin_92 : decode bB_begin 92 = .ok (.iload 4, 2) := by decide +kernel
theorem dB_begin_94 : decode bB_begin 94 = .ok (.iconst 3, 1) := by decide +kernel
theorem dB_begin_95 : decode bB_begin 95 = .ok (.if_icmp .ge 19, 3) := by decide +kernel
theorem dB_begin_98 : decode bB_begin 98 = .ok (.aload_n 0, 1) := by decide +kernel
theorem dB_begin_99 : decode bB_begin 99 = .ok (.getfield 35, 3) := by decide +kernel
theorem dB_begin_102 : decode bB_begin 102 = .ok (.iload_n 3, 1) := by decide +kernel
theorem dB_begin_103 : decode bB_begin 103 = .ok (.aaload, 1) := by decide +kernel
theorem dB_begin_104 : decode bB_begin 104 = .ok (.iload 4, 2) := by decide +kernel
theorem dB_begin_106 : decode bB_begin 106 = .ok (.iconst (-1), 1) := by decide +kernel
theorem dB_begin_107 : decode bB_begin 107 = .ok (.iastore, 1) := by decide +kernel
theorem dB_begin_108 : decode bB_begin 108 = .ok (.iinc 4 1, 3) := by decide +kernel
theorem dB_begin_111 : decode bB_begin 111 = .ok (.goto (-19), 3) := by decide +kernel
theorem dB_begin_114 : decode bB_begin 114 = .ok (.aload_n 0, 1) := by decide +kernel
theorem dB_begin_115 : decode bB_begin 115 = .ok (.getfield 9, 3) := by decide +kernel
theorem dB_begin_118 : decode bB_begin 118 = .ok (.iload_n 3, 1) := by decide +kernel
theorem dB_begin_119 : decode bB_begin 119 = .ok (.iaload, 1) := by decide +kernel
theorem dB_begin_120 : decode bB_begin 120 = .ok (.aload_n 0, 1) := by decide +kernel
theorem dB_begin_121 : decode bB_begin 121 = .ok (.getfield 72, 3) := by decide +kernel
theorem dB_begin_124 : decode bB_begin 124 = .ok (.if_icmp .ge 23, 3) := by decide +kernel
theorem dB_begin_127 : decode bB_begin 127 = .ok (.aload_n 0, 1) := by decide +kernel
theorem dB_begin_128 : decode bB_begin 128 = .ok (.getfield 18, 3) := by decide +kernel
theorem dB_begin_131 : decode bB_begin 131 = .ok (.aload_n 0, 1) := by decide +kernel
theorem dB_begin_132 : decode bB_begin 132 = .ok (.getfield 88, 3) := by decide +kernel
theorem dB_begin_135 : decode bB_begin 135 = .ok (.iload_n 3, 1) := by decide +kernel
theorem dB_begin_136 : decode bB_begin 136 = .ok (.iastore, 1) := by decide +kernel
theorem dB_begin_137 : decode bB_begin 137 = .ok (.aload_n 0, 1) := by decide +kernel
theorem dB_begin_138 : decode bB_begin 138 = .ok (.dup, 1) := by decide +kernel
theorem dB_begin_139 : decode bB_begin 139 = .ok (.getfield 88, 3) := by decide +kernel
theorem dB_begin_142 : decode bB_begin 142 = .ok (.iconst 1, 1) := by decide +kernel
theorem dB_begin_143 : decode bB_begin 143 = .ok (.iadd, 1) := by decide +kernel
theorem dB_begin_144 : decode bB_begin 144 = .ok (.putfield 88, 3) := by decide +kernel
theorem dB_begin_147 : decode bB_begin 147 = .ok (.iinc 2 1, 3) := by decide +kernel
theorem dB_begin_150 : decode bB_begin 150 = .ok (.goto (-97), 3) := by decide +kernel
theorem dB_begin_153 : decode bB_begin 153 = .ok (.return_, 1) := by decide +kernel
theorem dB_goOn_0 : decode bB_goOn 0 = .ok (.aload_n 0, 1) := by decide +kernel
theorem dB_goOn_1 : decode bB_goOn 1 = .ok (.getfield 72, 3) := by decide +kernel
theorem dB_goOn_4 : decode bB_goOn 4 = .ok (.iconst 1, 1) := by decide +kernel
theorem dB_goOn_5 : decode bB_goOn 5 = .ok (.isub, 1) := by decide +kernel
theorem dB_goOn_6 : decode bB_goOn 6 = .ok (.istore_n 2, 1) := by decide +kernel
theorem dB_goOn_7 : decode bB_goOn 7 = .ok (.iload_n 2, 1) := by decide +kernel
theorem dB_goOn_8 : decode bB_goOn 8 = .ok (.ifCond .lt 135, 3) := by decide +kernel
theorem dB_goOn_11 : decode bB_goOn 11 = .ok (.aload_n 0, 1) := by decide +kernel
theorem dB_goOn_12 : decode bB_goOn 12 = .ok (.getfield 38, 3) := by decide +kernel
theorem dB_goOn_15 : decode bB_goOn 15 = .ok (.iload_n 2, 1) := by decide +kernel
theorem dB_goOn_16 : decode bB_goOn 16 = .ok (.iaload, 1) := by decide +kernel
theorem dB_goOn_17 : decode bB_goOn 17 = .ok (.istore_n 3, 1) := by decide +kernel
theorem dB_goOn_18 : decode bB_goOn 18 = .ok (.iload_n 3, 1) := by decide +kernel
theorem dB_goOn_19 : decode bB_goOn 19 = .ok (.iconst (-1), 1) := by decide +kernel
theorem dB_goOn_20 : decode bB_goOn 20 = .ok (.if_icmp .ne 6, 3) := by decide +kernel
theorem dB_goOn_23 : decode bB_goOn 23 = .ok (.goto 114, 3) := by decide +kernel
theorem dB_goOn_26 : decode bB_goOn 26 = .ok (.aload_n 0, 1) := by decide +kernel
theorem dB_goOn_27 : decode bB_goOn 27 = .ok (.getfield 24, 3) := by decide +kernel
theorem dB_goOn_30 : decode bB_goOn 30 = .ok (.iload_n 3, 1) := by decide +kernel
theorem dB_goOn_31 : decode bB_goOn 31 = .ok (.iaload, 1) := by decide +kernel
theorem dB_goOn_32 : decode bB_goOn 32 = .ok (.ifCond .le 23, 3) := by decide +kernel
theorem dB_goOn_35 : decode bB_goOn 35 = .ok (.aload_n 0, 1) := by decide +kernel
theorem dB_goOn_36 : decode bB_goOn 36 = .ok (.getfield 24, 3) := by decide +kernel
theorem dB_goOn_39 : decode bB_goOn 39 = .ok (.iload_n 3, 1) := by decide +kernel
theorem dB_goOn_40 : decode bB_goOn 40 = .ok (.dup2, 1) := by decide +kernel
theorem dB_goOn_41 : decode bB_goOn 41 = .ok (.iaload, 1) := by decide +kernel
theorem dB_goOn_42 : decode bB_goOn 42 = .ok (.iconst 1, 1) := by decide +kernel
theorem dB_goOn_43 : decode bB_goOn 43 = .ok (.isub, 1) := by decide +kernel
theorem dB_goOn_44 : decode bB_goOn 44 = .ok (.iastore, 1) := by decide +kernel
theorem dB_goOn_45 : decode bB_goOn 45 = .ok (.aload_n 0, 1) := by decide +kernel
theorem dB_goOn_46 : decode bB_goOn 46 = .ok (.iload_n 3, 1) := by decide +kernel
theorem dB_goOn_47 : decode bB_goOn 47 = .ok (.iload_n 2, 1) := by decide +kernel
theorem dB_goOn_48 : decode bB_goOn 48 = .ok (.iload_n 1, 1) := by decide +kernel
theorem dB_goOn_49 : decode bB_goOn 49 = .ok (.invokevirtual 111, 3) := by decide +kernel
theorem dB_goOn_52 : decode bB_goOn 52 = .ok (.goto 85, 3) := by decide +kernel
theorem dB_goOn_55 : decode bB_goOn 55 = .ok (.aload_n 0, 1) := by decide +kernel
theorem dB_goOn_56 : decode bB_goOn 56 = .ok (.getfield 9, 3) := by decide +kernel
theorem dB_goOn_59 : decode bB_goOn 59 = .ok (.iload_n 3, 1) := by decide +kernel
theorem dB_goOn_60 : decode bB_goOn 60 = .ok (.iaload, 1) := by decide +kernel
theorem dB_goOn_61 : decode bB_goOn 61 = .ok (.iload_n 2, 1) := by decide +kernel
theorem dB_goOn_62 : decode bB_goOn 62 = .ok (.if_icmp .ne 24, 3) := by decide +kernel
theorem dB_goOn_65 : decode bB_goOn 65 = .ok (.aload_n 0, 1) := by decide +kernel
theorem dB_goOn_66 : decode bB_goOn 66 = .ok (.getfield 24, 3) := by decide +kernel
theorem dB_goOn_69 : decode bB_goOn 69 = .ok (.iload_n 3, 1) := by decide +kernel
theorem dB_goOn_70 : decode bB_goOn 70 = .ok (.aload_n 0, 1) := by decide +kernel
theorem dB_goOn_71 : decode bB_goOn 71 = .ok (.iload_n 3, 1) := by decide +kernel
theorem dB_goOn_72 : decode bB_goOn 72 = .ok (.invokevirtual 114, 3) := by decide +kernel
theorem dB_goOn_75 : decode bB_goOn 75 = .ok (.iastore, 1) := by decide +kernel
theorem dB_goOn_76 : decode bB_goOn 76 = .ok (.aload_n 0, 1) := by decide +kernel
theorem dB_goOn_77 : decode bB_goOn 77 = .ok (.iload_n 3, 1) := by decide +kernel
theorem dB_goOn_78 : decode bB_goOn 78 = .ok (.iload_n 2, 1) := by decide +kernel
theorem dB_goOn_79 : decode bB_goOn 79 = .ok (.iload_n 1, 1) := by decide +kernel
theorem dB_goOn_80 : decode bB_goOn 80 = .ok (.invokevirtual 111, 3) := by decide +kernel
theorem dB_goOn_83 : decode bB_goOn 83 = .ok (.goto 54, 3) := by decide +kernel
theorem dB_goOn_86 : decode bB_goOn 86 = .ok (.iload_n 2, 1) := by decide +kernel
theorem dB_goOn_87 : decode bB_goOn 87 = .ok (.iconst 1, 1) := by decide +kernel
theorem dB_goOn_88 : decode bB_goOn 88 = .ok (.iadd, 1) := by decide +kernel
theorem dB_goOn_89 : decode bB_goOn 89 = .ok (.aload_n 0, 1) := by decide +kernel
theorem dB_goOn_90 : decode bB_goOn 90 = .ok (.getfield 72, 3) := by decide +kernel
theorem dB_goOn_93 : decode bB_goOn 93 = .ok (.if_icmp .ge 34, 3) := by decide +kernel
theorem dB_goOn_96 : decode bB_goOn 96 = .ok (.aload_n 0, 1) := by decide +kernel
theorem dB_goOn_97 : decode bB_goOn 97 = .ok (.getfield 38, 3) := by decide +kernel
theorem dB_goOn_100 : decode bB_goOn 100 = .ok (.iload_n 2, 1) := by decide +kernel
theorem dB_goOn_101 : decode bB_goOn 101 = .ok (.iconst 1, 1) := by decide +kernel
theorem dB_goOn_102 : decode bB_goOn 102 = .ok (.iadd, 1) := by decide +kernel
theorem dB_goOn_103 : decode bB_goOn 103 = .ok (.iaload, 1) := by decide +kernel
theorem dB_goOn_104 : decode bB_goOn 104 = .ok (.iconst (-1), 1) := by decide +kernel
theorem dB_goOn_105 : decode bB_goOn 105 = .ok (.if_icmp .ne 22, 3) := by decide +kernel
theorem dB_goOn_108 : decode bB_goOn 108 = .ok (.aload_n 0, 1) := by decide +kernel
theorem dB_goOn_109 : decode bB_goOn 109 = .ok (.getfield 38, 3) := by decide +kernel
theorem dB_goOn_112 : decode bB_goOn 112 = .ok (.iload_n 2, 1) := by decide +kernel
theorem dB_goOn_113 : decode bB_goOn 113 = .ok (.iconst 1, 1) := by decide +kernel
theorem dB_goOn_114 : decode bB_goOn 114 = .ok (.iadd, 1) := by decide +kernel
theorem dB_goOn_115 : decode bB_goOn 115 = .ok (.iload_n 3, 1) := by decide +kernel
theorem dB_goOn_116 : decode bB_goOn 116 = .ok (.iastore, 1) := by decide +kernel
theorem dB_goOn_117 : decode bB_goOn 117 = .ok (.aload_n 0, 1) := by decide +kernel
theorem dB_goOn_118 : decode bB_goOn 118 = .ok (.getfield 38, 3) := by decide +kernel
theorem dB_goOn_121 : decode bB_goOn 121 = .ok (.iload_n 2, 1) := by decide +kernel
theorem dB_goOn_122 : decode bB_goOn 122 = .ok (.iconst (-1), 1) := by decide +kernel
theorem dB_goOn_123 : decode bB_goOn 123 = .ok (.iastore, 1) := by decide +kernel
theorem dB_goOn_124 : decode bB_goOn 124 = .ok (.goto 13, 3) := by decide +kernel
theorem dB_goOn_127 : decode bB_goOn 127 = .ok (.aload_n 0, 1) := by decide +kernel
theorem dB_goOn_128 : decode bB_goOn 128 = .ok (.getfield 30, 3) := by decide +kernel
theorem dB_goOn_131 : decode bB_goOn 131 = .ok (.iload_n 3, 1) := by decide +kernel
theorem dB_goOn_132 : decode bB_goOn 132 = .ok (.dup2, 1) := by decide +kernel
theorem dB_goOn_133 : decode bB_goOn 133 = .ok (.iaload, 1) := by decide +kernel
theorem dB_goOn_134 : decode bB_goOn 134 = .ok (.iconst 1, 1) := by decide +kernel
theorem dB_goOn_135 : decode bB_goOn 135 = .ok (.iadd, 1) := by decide +kernel
theorem dB_goOn_136 : decode bB_goOn 136 = .ok (.iastore, 1) := by decide +kernel
theorem dB_goOn_137 : decode bB_goOn 137 = .ok (.iinc 2 (-1), 3) := by decide +kernel
theorem dB_goOn_140 : decode bB_goOn 140 = .ok (.goto (-133), 3) := by decide +kernel
theorem dB_goOn_143 : decode bB_goOn 143 = .ok (.return_, 1) := by decide +kernel
theorem dB_sitIfReady_0 : decode bB_sitIfReady 0 = .ok (.aload_n 0, 1) := by decide +kernel
theorem dB_sitIfReady_1 : decode bB_sitIfReady 1 = .ok (.getfield 24, 3) := by decide +kernel
theorem dB_sitIfReady_4 : decode bB_sitIfReady 4 = .ok (.iload_n 1, 1) := by decide +kernel
theorem dB_sitIfReady_5 : decode bB_sitIfReady 5 = .ok (.iaload, 1) := by decide +kernel
theorem dB_sitIfReady_6 : decode bB_sitIfReady 6 = .ok (.ifCond .ne 32, 3) := by decide +kernel
theorem dB_sitIfReady_9 : decode bB_sitIfReady 9 = .ok (.aload_n 0, 1) := by decide +kernel
theorem dB_sitIfReady_10 : decode bB_sitIfReady 10 = .ok (.getfield 38, 3) := by decide +kernel
theorem dB_sitIfReady_13 : decode bB_sitIfReady 13 = .ok (.iload_n 2, 1) := by decide +kernel
theorem dB_sitIfReady_14 : decode bB_sitIfReady 14 = .ok (.iconst (-1), 1) := by decide +kernel
theorem dB_sitIfReady_15 : decode bB_sitIfReady 15 = .ok (.iastore, 1) := by decide +kernel
theorem dB_sitIfReady_16 : decode bB_sitIfReady 16 = .ok (.aload_n 0, 1) := by decide +kernel
theorem dB_sitIfReady_17 : decode bB_sitIfReady 17 = .ok (.getfield 27, 3) := by decide +kernel
theorem dB_sitIfReady_20 : decode bB_sitIfReady 20 = .ok (.iload_n 1, 1) := by decide +kernel
theorem dB_sitIfReady_21 : decode bB_sitIfReady 21 = .ok (.iload_n 3, 1) := by decide +kernel
theorem dB_sitIfReady_22 : decode bB_sitIfReady 22 = .ok (.iastore, 1) := by decide +kernel
theorem dB_sitIfReady_23 : decode bB_sitIfReady 23 = .ok (.aload_n 0, 1) := by decide +kernel
theorem dB_sitIfReady_24 : decode bB_sitIfReady 24 = .ok (.dup, 1) := by decide +kernel
theorem dB_sitIfReady_25 : decode bB_sitIfReady 25 = .ok (.getfield 85, 3) := by decide +kernel
theorem dB_sitIfReady_28 : decode bB_sitIfReady 28 = .ok (.iconst 1, 1) := by decide +kernel
theorem dB_sitIfReady_29 : decode bB_sitIfReady 29 = .ok (.iadd, 1) := by decide +kernel
theorem dB_sitIfReady_30 : decode bB_sitIfReady 30 = .ok (.putfield 85, 3) := by decide +kernel
theorem dB_sitIfReady_33 : decode bB_sitIfReady 33 = .ok (.aload_n 0, 1) := by decide +kernel
theorem dB_sitIfReady_34 : decode bB_sitIfReady 34 = .ok (.iload_n 3, 1) := by decide +kernel
theorem dB_sitIfReady_35 : decode bB_sitIfReady 35 = .ok (.putfield 102, 3) := by decide +kernel
theorem dB_sitIfReady_38 : decode bB_sitIfReady 38 = .ok (.return_, 1) := by decide +kernel
theorem dB_timeToSit_0 : decode bB_timeToSit 0 = .ok (.iconst 3, 1) := by decide +kernel
theorem dB_timeToSit_1 : decode bB_timeToSit 1 = .ok (.aload_n 0, 1) := by decide +kernel
theorem dB_timeToSit_2 : decode bB_timeToSit 2 = .ok (.iload_n 1, 1) := by decide +kernel
theorem dB_timeToSit_3 : decode bB_timeToSit 3 = .ok (.invokevirtual 118, 3) := by decide +kernel
theorem dB_timeToSit_6 : decode bB_timeToSit 6 = .ok (.imul, 1) := by decide +kernel
theorem dB_timeToSit_7 : decode bB_timeToSit 7 = .ok (.istore_n 2, 1) := by decide +kernel
theorem dB_timeToSit_8 : decode bB_timeToSit 8 = .ok (.iconst 0, 1) := by decide +kernel
theorem dB_timeToSit_9 : decode bB_timeToSit 9 = .ok (.istore_n 3, 1) := by decide +kernel
theorem dB_timeToSit_10 : decode bB_timeToSit 10 = .ok (.iload_n 3, 1) := by decide +kernel
theorem dB_timeToSit_11 : decode bB_timeToSit 11 = .ok (.aload_n 0, 1) := by decide +kernel
theorem dB_timeToSit_12 : decode bB_timeToSit 12 = .ok (.getfield 15, 3) := by decide +kernel
theorem dB_timeToSit_15 : decode bB_timeToSit 15 = .ok (.iload_n 1, 1) := by decide +kernel
theorem dB_timeToSit_16 : decode bB_timeToSit 16 = .ok (.iaload, 1) := by decide +kernel
theorem dB_timeToSit_17 : decode bB_timeToSit 17 = .ok (.if_icmp .ge 83, 3) := by decide +kernel
theorem dB_timeToSit_20 : decode bB_timeToSit 20 = .ok (.aload_n 0, 1) := by decide +kernel
theorem dB_timeToSit_21 : decode bB_timeToSit 21 = .ok (.aload_n 0, 1) := by decide +kernel
theorem dB_timeToSit_22 : decode bB_timeToSit 22 = .ok (.getfield 9, 3) := by decide +kernel
theorem dB_timeToSit_25 : decode bB_timeToSit 25 = .ok (.iload_n 1, 1) := by decide +kernel
theorem dB_timeToSit_26 : decode bB_timeToSit 26 = .ok (.iaload, 1) := by decide +kernel
theorem dB_timeToSit_27 : decode bB_timeToSit 27 = .ok (.invokevirtual 121, 3) := by decide +kernel
theorem dB_timeToSit_30 : decode bB_timeToSit 30 = .ok (.istore 4, 2) := by decide +kernel
theorem dB_timeToSit_32 : decode bB_timeToSit 32 = .ok (.aload_n 0, 1) := by decide +kernel
theorem dB_timeToSit_33 : decode bB_timeToSit 33 = .ok (.getfield 35, 3) := by decide +kernel
theorem dB_timeToSit_36 : decode bB_timeToSit 36 = .ok (.iload_n 1, 1) := by decide +kernel
theorem dB_timeToSit_37 : decode bB_timeToSit 37 = .ok (.aaload, 1) := by decide +kernel
theorem dB_timeToSit_38 : decode bB_timeToSit 38 = .ok (.iload_n 3, 1) := by decide +kernel
theorem dB_timeToSit_39 : decode bB_timeToSit 39 = .ok (.iload 4, 2) := by decide +kernel
theorem dB_timeToSit_41 : decode bB_timeToSit 41 = .ok (.iastore, 1) := by decide +kernel
theorem dB_timeToSit_42 : decode bB_timeToSit 42 = .ok (.iload 4, 2) := by decide +kernel
theorem dB_timeToSit_44 : decode bB_timeToSit 44 = .ok (.iconst (-1), 1) := by decide +kernel
theorem dB_timeToSit_45 : decode bB_timeToSit 45 = .ok (.if_icmp .ne 19, 3) := by decide +kernel
theorem dB_timeToSit_48 : decode bB_timeToSit 48 = .ok (.aload_n 0, 1) := by decide +kernel
theorem dB_timeToSit_49 : decode bB_timeToSit 49 = .ok (.dup, 1) := by decide +kernel
theorem dB_timeToSit_50 : decode bB_timeToSit 50 = .ok (.getfield 99, 3) := by decide +kernel
theorem dB_timeToSit_53 : decode bB_timeToSit 53 = .ok (.iconst 1, 1) := by decide +kernel
theorem dB_timeToSit_54 : decode bB_timeToSit 54 = .ok (.iadd, 1) := by decide +kernel
theorem dB_timeToSit_55 : decode bB_timeToSit 55 = .ok (.putfield 99, 3) := by decide +kernel
theorem dB_timeToSit_58 : decode bB_timeToSit 58 = .ok (.iinc 2 5, 3) := by decide +kernel
theorem dB_timeToSit_61 : decode bB_timeToSit 61 = .ok (.goto 33, 3) := by decide +kernel
theorem dB_timeToSit_64 : decode bB_timeToSit 64 = .ok (.aload_n 0, 1) := by decide +kernel
theorem dB_timeToSit_65 : decode bB_timeToSit 65 = .ok (.getfield 21, 3) := by decide +kernel
theorem dB_timeToSit_68 : decode bB_timeToSit 68 = .ok (.iload 4, 2) := by decide +kernel
theorem dB_timeToSit_70 : decode bB_timeToSit 70 = .ok (.dup2, 1) := by decide +kernel
theorem dB_timeToSit_71 : decode bB_timeToSit 71 = .ok (.iaload, 1) := by decide +kernel
theorem dB_timeToSit_72 : decode bB_timeToSit 72 = .ok (.iconst 1, 1) := by decide +kernel
theorem dB_timeToSit_73 : decode bB_timeToSit 73 = .ok (.isub, 1) := by decide +kernel
theorem dB_timeToSit_74 : decode bB_timeToSit 74 = .ok (.iastore, 1) := by decide +kernel
theorem dB_timeToSit_75 : decode bB_timeToSit 75 = .ok (.iload_n 2, 1) := by decide +kernel
theorem dB_timeToSit_76 : decode bB_timeToSit 76 = .ok (.iconst 4, 1) := by decide +kernel
theorem dB_timeToSit_77 : decode bB_timeToSit 77 = .ok (.iconst 2, 1) := by decide +kernel
theorem dB_timeToSit_78 : decode bB_timeToSit 78 = .ok (.iload 4, 2) := by decide +kernel
theorem dB_timeToSit_80 : decode bB_timeToSit 80 = .ok (.aload_n 0, 1) := by decide +kernel
theorem dB_timeToSit_81 : decode bB_timeToSit 81 = .ok (.getfield 9, 3) := by decide +kernel
theorem dB_timeToSit_84 : decode bB_timeToSit 84 = .ok (.iload_n 1, 1) := by decide +kernel
theorem dB_timeToSit_85 : decode bB_timeToSit 85 = .ok (.iaload, 1) := by decide +kernel
theorem dB_timeToSit_86 : decode bB_timeToSit 86 = .ok (.isub, 1) := by decide +kernel
theorem dB_timeToSit_87 : decode bB_timeToSit 87 = .ok (.invokestatic 124, 3) := by decide +kernel
theorem dB_timeToSit_90 : decode bB_timeToSit 90 = .ok (.imul, 1) := by decide +kernel
theorem dB_timeToSit_91 : decode bB_timeToSit 91 = .ok (.iadd, 1) := by decide +kernel
theorem dB_timeToSit_92 : decode bB_timeToSit 92 = .ok (.iadd, 1) := by decide +kernel
theorem dB_timeToSit_93 : decode bB_timeToSit 93 = .ok (.istore_n 2, 1) := by decide +kernel
theorem dB_timeToSit_94 : decode bB_timeToSit 94 = .ok (.iinc 3 1, 3) := by decide +kernel
theorem dB_timeToSit_97 : decode bB_timeToSit 97 = .ok (.goto (-87), 3) := by decide +kernel
theorem dB_timeToSit_100 : decode bB_timeToSit 100 = .ok (.iload_n 2, 1) := by decide +kernel
theorem dB_timeToSit_101 : decode bB_timeToSit 101 = .ok (.ireturn, 1) := by decide +kernel
theorem dB_inTheWayOf_0 : decode bB_inTheWayOf 0 = .ok (.iconst 0, 1) := by decide +kernel
theorem dB_inTheWayOf_1 : decode bB_inTheWayOf 1 = .ok (.istore_n 2, 1) := by decide +kernel
theorem dB_inTheWayOf_2 : decode bB_inTheWayOf 2 = .ok (.iconst 0, 1) := by decide +kernel
theorem dB_inTheWayOf_3 : decode bB_inTheWayOf 3 = .ok (.istore_n 3, 1) := by decide +kernel
theorem dB_inTheWayOf_4 : decode bB_inTheWayOf 4 = .ok (.iload_n 3, 1) := by decide +kernel
theorem dB_inTheWayOf_5 : decode bB_inTheWayOf 5 = .ok (.aload_n 0, 1) := by decide +kernel
theorem dB_inTheWayOf_6 : decode bB_inTheWayOf 6 = .ok (.getfield 88, 3) := by decide +kernel
theorem dB_inTheWayOf_9 : decode bB_inTheWayOf 9 = .ok (.if_icmp .ge 90, 3) := by decide +kernel
theorem dB_inTheWayOf_12 : decode bB_inTheWayOf 12 = .ok (.aload_n 0, 1) := by decide +kernel
theorem dB_inTheWayOf_13 : decode bB_inTheWayOf 13 = .ok (.getfield 18, 3) := by decide +kernel
theorem dB_inTheWayOf_16 : decode bB_inTheWayOf 16 = .ok (.iload_n 3, 1) := by decide +kernel
theorem dB_inTheWayOf_17 : decode bB_inTheWayOf 17 = .ok (.iaload, 1) := by decide +kernel
theorem dB_inTheWayOf_18 : decode bB_inTheWayOf 18 = .ok (.istore 4, 2) := by decide +kernel
theorem dB_inTheWayOf_20 : decode bB_inTheWayOf 20 = .ok (.aload_n 0, 1) := by decide +kernel
theorem dB_inTheWayOf_21 : decode bB_inTheWayOf 21 = .ok (.getfield 27, 3) := by decide +kernel
theorem dB_inTheWayOf_24 : decode bB_inTheWayOf 24 = .ok (.iload 4, 2) := by decide +kernel
theorem dB_inTheWayOf_26 : decode bB_inTheWayOf 26 = .ok (.iaload, 1) := by decide +kernel
theorem dB_inTheWayOf_27 : decode bB_inTheWayOf 27 = .ok (.ifCond .le 66, 3) := by decide +kernel
theorem dB_inTheWayOf_30 : decode bB_inTheWayOf 30 = .ok (.aload_n 0, 1) := by decide +kernel
theorem dB_inTheWayOf_31 : decode bB_inTheWayOf 31 = .ok (.getfield 9, 3) := by decide +kernel
theorem dB_inTheWayOf_34 : decode bB_inTheWayOf 34 = .ok (.iload 4, 2) := by decide +kernel
theorem dB_inTheWayOf_36 : decode bB_inTheWayOf 36 = .ok (.iaload, 1) := by decide +kernel
theorem dB_inTheWayOf_37 : decode bB_inTheWayOf 37 = .ok (.aload_n 0, 1) := by decide +kernel
theorem dB_inTheWayOf_38 : decode bB_inTheWayOf 38 = .ok (.getfield 9, 3) := by decide +kernel
theorem dB_inTheWayOf_41 : decode bB_inTheWayOf 41 = .ok (.iload_n 1, 1) := by decide +kernel
theorem dB_inTheWayOf_42 : decode bB_inTheWayOf 42 = .ok (.iaload, 1) := by decide +kernel
theorem dB_inTheWayOf_43 : decode bB_inTheWayOf 43 = .ok (.if_icmp .ne 50, 3) := by decide +kernel
theorem dB_inTheWayOf_46 : decode bB_inTheWayOf 46 = .ok (.aload_n 0, 1) := by decide +kernel
theorem dB_inTheWayOf_47 : decode bB_inTheWayOf 47 = .ok (.getfield 41, 3) := by decide +kernel
theorem dB_inTheWayOf_50 : decode bB_inTheWayOf 50 = .ok (.getfield 127, 3) := by decide +kernel
theorem dB_inTheWayOf_53 : decode bB_inTheWayOf 53 = .ok (.iload 4, 2) := by decide +kernel
theorem dB_inTheWayOf_55 : decode bB_inTheWayOf 55 = .ok (.iaload, 1) := by decide +kernel
theorem dB_inTheWayOf_56 : decode bB_inTheWayOf 56 = .ok (.aload_n 0, 1) := by decide +kernel
theorem dB_inTheWayOf_57 : decode bB_inTheWayOf 57 = .ok (.getfield 41, 3) := by decide +kernel
theorem dB_inTheWayOf_60 : decode bB_inTheWayOf 60 = .ok (.getfield 127, 3) := by decide +kernel
theorem dB_inTheWayOf_63 : decode bB_inTheWayOf 63 = .ok (.iload_n 1, 1) := by decide +kernel
theorem dB_inTheWayOf_64 : decode bB_inTheWayOf 64 = .ok (.iaload, 1) := by decide +kernel
theorem dB_inTheWayOf_65 : decode bB_inTheWayOf 65 = .ok (.if_icmp .ne 28, 3) := by decide +kernel
theorem dB_inTheWayOf_68 : decode bB_inTheWayOf 68 = .ok (.aload_n 0, 1) := by decide +kernel
theorem dB_inTheWayOf_69 : decode bB_inTheWayOf 69 = .ok (.getfield 41, 3) := by decide +kernel
theorem dB_inTheWayOf_72 : decode bB_inTheWayOf 72 = .ok (.getfield 130, 3) := by decide +kernel
theorem dB_inTheWayOf_75 : decode bB_inTheWayOf 75 = .ok (.iload 4, 2) := by decide +kernel
theorem dB_inTheWayOf_77 : decode bB_inTheWayOf 77 = .ok (.iaload, 1) := by decide +kernel
theorem dB_inTheWayOf_78 : decode bB_inTheWayOf 78 = .ok (.aload_n 0, 1) := by decide +kernel
theorem dB_inTheWayOf_79 : decode bB_inTheWayOf 79 = .ok (.getfield 41, 3) := by decide +kernel
theorem dB_inTheWayOf_82 : decode bB_inTheWayOf 82 = .ok (.getfield 130, 3) := by decide +kernel
theorem dB_inTheWayOf_85 : decode bB_inTheWayOf 85 = .ok (.iload_n 1, 1) := by decide +kernel
theorem dB_inTheWayOf_86 : decode bB_inTheWayOf 86 = .ok (.iaload, 1) := by decide +kernel
theorem dB_inTheWayOf_87 : decode bB_inTheWayOf 87 = .ok (.if_icmp .ge 6, 3) := by decide +kernel
theorem dB_inTheWayOf_90 : decode bB_inTheWayOf 90 = .ok (.iinc 2 1, 3) := by decide +kernel
theorem dB_inTheWayOf_93 : decode bB_inTheWayOf 93 = .ok (.iinc 3 1, 3) := by decide +kernel
theorem dB_inTheWayOf_96 : decode bB_inTheWayOf 96 = .ok (.goto (-92), 3) := by decide +kernel
theorem dB_inTheWayOf_99 : decode bB_inTheWayOf 99 = .ok (.iload_n 2, 1) := by decide +kernel
theorem dB_inTheWayOf_100 : decode bB_inTheWayOf 100 = .ok (.ireturn, 1) := by decide +kernel
theorem dB_nearestBin_0 : decode bB_nearestBin 0 = .ok (.iconst 0, 1) := by decide +kernel
theorem dB_nearestBin_1 : decode bB_nearestBin 1 = .ok (.istore_n 2, 1) := by decide +kernel
theorem dB_nearestBin_2 : decode bB_nearestBin 2 = .ok (.iload_n 2, 1) := by decide +kernel
theorem dB_nearestBin_3 : decode bB_nearestBin 3 = .ok (.aload_n 0, 1) := by decide +kernel
theorem dB_nearestBin_4 : decode bB_nearestBin 4 = .ok (.getfield 72, 3) := by decide +kernel
theorem dB_nearestBin_7 : decode bB_nearestBin 7 = .ok (.if_icmp .ge 55, 3) := by decide +kernel
theorem dB_nearestBin_10 : decode bB_nearestBin 10 = .ok (.iload_n 1, 1) := by decide +kernel
theorem dB_nearestBin_11 : decode bB_nearestBin 11 = .ok (.iload_n 2, 1) := by decide +kernel
theorem dB_nearestBin_12 : decode bB_nearestBin 12 = .ok (.isub, 1) := by decide +kernel
theorem dB_nearestBin_13 : decode bB_nearestBin 13 = .ok (.ifCond .lt 18, 3) := by decide +kernel
theorem dB_nearestBin_16 : decode bB_nearestBin 16 = .ok (.aload_n 0, 1) := by decide +kernel
theorem dB_nearestBin_17 : decode bB_nearestBin 17 = .ok (.getfield 21, 3) := by decide +kernel
theorem dB_nearestBin_20 : decode bB_nearestBin 20 = .ok (.iload_n 1, 1) := by decide +kernel
theorem dB_nearestBin_21 : decode bB_nearestBin 21 = .ok (.iload_n 2, 1) := by decide +kernel
theorem dB_nearestBin_22 : decode bB_nearestBin 22 = .ok (.isub, 1) := by decide +kernel
theorem dB_nearestBin_23 : decode bB_nearestBin 23 = .ok (.iaload, 1) := by decide +kernel
theorem dB_nearestBin_24 : decode bB_nearestBin 24 = .ok (.ifCond .le 7, 3) := by decide +kernel
theorem dB_nearestBin_27 : decode bB_nearestBin 27 = .ok (.iload_n 1, 1) := by decide +kernel
theorem dB_nearestBin_28 : decode bB_nearestBin 28 = .ok (.iload_n 2, 1) := by decide +kernel
theorem dB_nearestBin_29 : decode bB_nearestBin 29 = .ok (.isub, 1) := by decide +kernel
theorem dB_nearestBin_30 : decode bB_nearestBin 30 = .ok (.ireturn, 1) := by decide +kernel
theorem dB_nearestBin_31 : decode bB_nearestBin 31 = .ok (.iload_n 1, 1) := by decide +kernel
theorem dB_nearestBin_32 : decode bB_nearestBin 32 = .ok (.iload_n 2, 1) := by decide +kernel
theorem dB_nearestBin_33 : decode bB_nearestBin 33 = .ok (.iadd, 1) := by decide +kernel
theorem dB_nearestBin_34 : decode bB_nearestBin 34 = .ok (.aload_n 0, 1) := by decide +kernel
theorem dB_nearestBin_35 : decode bB_nearestBin 35 = .ok (.getfield 72, 3) := by decide +kernel
theorem dB_nearestBin_38 : decode bB_nearestBin 38 = .ok (.if_icmp .ge 18, 3) := by decide +kernel
theorem dB_nearestBin_41 : decode bB_nearestBin 41 = .ok (.aload_n 0, 1) := by decide +kernel
theorem dB_nearestBin_42 : decode bB_nearestBin 42 = .ok (.getfield 21, 3) := by decide +kernel
theorem dB_nearestBin_45 : decode bB_nearestBin 45 = .ok (.iload_n 1, 1) := by decide +kernel
theorem dB_nearestBin_46 : decode bB_nearestBin 46 = .ok (.iload_n 2, 1) := by decide +kernel
theorem dB_nearestBin_47 : decode bB_nearestBin 47 = .ok (.iadd, 1) := by decide +kernel
theorem dB_nearestBin_48 : decode bB_nearestBin 48 = .ok (.iaload, 1) := by decide +kernel
theorem dB_nearestBin_49 : decode bB_nearestBin 49 = .ok (.ifCond .le 7, 3) := by decide +kernel
theorem dB_nearestBin_52 : decode bB_nearestBin 52 = .ok (.iload_n 1, 1) := by decide +kernel
theorem dB_nearestBin_53 : decode bB_nearestBin 53 = .ok (.iload_n 2, 1) := by decide +kernel
theorem dB_nearestBin_54 : decode bB_nearestBin 54 = .ok (.iadd, 1) := by decide +kernel
theorem dB_nearestBin_55 : decode bB_nearestBin 55 = .ok (.ireturn, 1) := by decide +kernel
theorem dB_nearestBin_56 : decode bB_nearestBin 56 = .ok (.iinc 2 1, 3) := by decide +kernel
theorem dB_nearestBin_59 : decode bB_nearestBin 59 = .ok (.goto (-57), 3) := by decide +kernel
theorem dB_nearestBin_62 : decode bB_nearestBin 62 = .ok (.iconst (-1), 1) := by decide +kernel
theorem dB_nearestBin_63 : decode bB_nearestBin 63 = .ok (.ireturn, 1) := by decide +kernel
theorem dB_tell_0 : decode bB_tell 0 = .ok (.iload_n 1, 1) := by decide +kernel
theorem dB_tell_1 : decode bB_tell 1 = .ok (.ifCond .ne 8, 3) := by decide +kernel
theorem dB_tell_4 : decode bB_tell 4 = .ok (.aload_n 0, 1) := by decide +kernel
theorem dB_tell_5 : decode bB_tell 5 = .ok (.getfield 102, 3) := by decide +kernel
theorem dB_tell_8 : decode bB_tell 8 = .ok (.ireturn, 1) := by decide +kernel
theorem dB_tell_9 : decode bB_tell 9 = .ok (.iload_n 1, 1) := by decide +kernel
theorem dB_tell_10 : decode bB_tell 10 = .ok (.iconst 1, 1) := by decide +kernel
theorem dB_tell_11 : decode bB_tell 11 = .ok (.if_icmp .ne 8, 3) := by decide +kernel
theorem dB_tell_14 : decode bB_tell 14 = .ok (.aload_n 0, 1) := by decide +kernel
theorem dB_tell_15 : decode bB_tell 15 = .ok (.getfield 99, 3) := by decide +kernel
theorem dB_tell_18 : decode bB_tell 18 = .ok (.ireturn, 1) := by decide +kernel
theorem dB_tell_19 : decode bB_tell 19 = .ok (.iconst 0, 1) := by decide +kernel
theorem dB_tell_20 : decode bB_tell 20 = .ok (.istore_n 2, 1) := by decide +kernel
theorem dB_tell_21 : decode bB_tell 21 = .ok (.iconst 0, 1) := by decide +kernel
theorem dB_tell_22 : decode bB_tell 22 = .ok (.istore_n 3, 1) := by decide +kernel
theorem dB_tell_23 : decode bB_tell 23 = .ok (.iload_n 3, 1) := by decide +kernel
theorem dB_tell_24 : decode bB_tell 24 = .ok (.aload_n 0, 1) := by decide +kernel
theorem dB_tell_25 : decode bB_tell 25 = .ok (.getfield 88, 3) := by decide +kernel
theorem dB_tell_28 : decode bB_tell 28 = .ok (.if_icmp .ge 23, 3) := by decide +kernel
theorem dB_tell_31 : decode bB_tell 31 = .ok (.iload_n 2, 1) := by decide +kernel
theorem dB_tell_32 : decode bB_tell 32 = .ok (.aload_n 0, 1) := by decide +kernel
theorem dB_tell_33 : decode bB_tell 33 = .ok (.getfield 30, 3) := by decide +kernel
theorem dB_tell_36 : decode bB_tell 36 = .ok (.aload_n 0, 1) := by decide +kernel
theorem dB_tell_37 : decode bB_tell 37 = .ok (.getfield 18, 3) := by decide +kernel
theorem dB_tell_40 : decode bB_tell 40 = .ok (.iload_n 3, 1) := by decide +kernel
theorem dB_tell_41 : decode bB_tell 41 = .ok (.iaload, 1) := by decide +kernel
theorem dB_tell_42 : decode bB_tell 42 = .ok (.iaload, 1) := by decide +kernel
theorem dB_tell_43 : decode bB_tell 43 = .ok (.iadd, 1) := by decide +kernel
theorem dB_tell_44 : decode bB_tell 44 = .ok (.istore_n 2, 1) := by decide +kernel
theorem dB_tell_45 : decode bB_tell 45 = .ok (.iinc 3 1, 3) := by decide +kernel
theorem dB_tell_48 : decode bB_tell 48 = .ok (.goto (-25), 3) := by decide +kernel
theorem dB_tell_51 : decode bB_tell 51 = .ok (.iload_n 2, 1) := by decide +kernel
theorem dB_tell_52 : decode bB_tell 52 = .ok (.ireturn, 1) := by decide +kernel
theorem dB_tellOf_0 : decode bB_tellOf 0 = .ok (.iload_n 2, 1) := by decide +kernel
theorem dB_tellOf_1 : decode bB_tellOf 1 = .ok (.ifCond .ne 10, 3) := by decide +kernel
theorem dB_tellOf_4 : decode bB_tellOf 4 = .ok (.aload_n 0, 1) := by decide +kernel
theorem dB_tellOf_5 : decode bB_tellOf 5 = .ok (.getfield 27, 3) := by decide +kernel
theorem dB_tellOf_8 : decode bB_tellOf 8 = .ok (.iload_n 1, 1) := by decide +kernel
theorem dB_tellOf_9 : decode bB_tellOf 9 = .ok (.iaload, 1) := by decide +kernel
theorem dB_tellOf_10 : decode bB_tellOf 10 = .ok (.ireturn, 1) := by decide +kernel
theorem dB_tellOf_11 : decode bB_tellOf 11 = .ok (.iload_n 2, 1) := by decide +kernel
theorem dB_tellOf_12 : decode bB_tellOf 12 = .ok (.iconst 1, 1) := by decide +kernel
theorem dB_tellOf_13 : decode bB_tellOf 13 = .ok (.if_icmp .ne 12, 3) := by decide +kernel
theorem dB_tellOf_16 : decode bB_tellOf 16 = .ok (.aload_n 0, 1) := by decide +kernel
theorem dB_tellOf_17 : decode bB_tellOf 17 = .ok (.getfield 30, 3) := by decide +kernel
theorem dB_tellOf_20 : decode bB_tellOf 20 = .ok (.iload_n 1, 1) := by decide +kernel
theorem dB_tellOf_21 : decode bB_tellOf 21 = .ok (.iaload, 1) := by decide +kernel
theorem dB_tellOf_22 : decode bB_tellOf 22 = .ok (.goto 13, 3) := by decide +kernel
theorem dB_tellOf_25 : decode bB_tellOf 25 = .ok (.aload_n 0, 1) := by decide +kernel
theorem dB_tellOf_26 : decode bB_tellOf 26 = .ok (.getfield 35, 3) := by decide +kernel
theorem dB_tellOf_29 : decode bB_tellOf 29 = .ok (.iload_n 1, 1) := by decide +kernel
theorem dB_tellOf_30 : decode bB_tellOf 30 = .ok (.aaload, 1) := by decide +kernel
theorem dB_tellOf_31 : decode bB_tellOf 31 = .ok (.iload_n 2, 1) := by decide +kernel
theorem dB_tellOf_32 : decode bB_tellOf 32 = .ok (.iconst 2, 1) := by decide +kernel
theorem dB_tellOf_33 : decode bB_tellOf 33 = .ok (.isub, 1) := by decide +kernel
theorem dB_tellOf_34 : decode bB_tellOf 34 = .ok (.iaload, 1) := by decide +kernel
theorem dB_tellOf_35 : decode bB_tellOf 35 = .ok (.ireturn, 1) := by decide +kernel
theorem dC_build_0 : decode bC_build 0 = .ok (.aload_n 0, 1) := by decide +kernel
theorem dC_build_1 : decode bC_build 1 = .ok (.iload_n 1, 1) := by decide +kernel
theorem dC_build_2 : decode bC_build 2 = .ok (.putfield 7, 3) := by decide +kernel
theorem dC_build_5 : decode bC_build 5 = .ok (.aload_n 0, 1) := by decide +kernel
theorem dC_build_6 : decode bC_build 6 = .ok (.iload_n 2, 1) := by decide +kernel
theorem dC_build_7 : decode bC_build 7 = .ok (.putfield 13, 3) := by decide +kernel
theorem dC_build_10 : decode bC_build 10 = .ok (.aload_n 0, 1) := by decide +kernel
theorem dC_build_11 : decode bC_build 11 = .ok (.iload_n 3, 1) := by decide +kernel
theorem dC_build_12 : decode bC_build 12 = .ok (.putfield 16, 3) := by decide +kernel
theorem dC_build_15 : decode bC_build 15 = .ok (.aload_n 0, 1) := by decide +kernel
theorem dC_build_16 : decode bC_build 16 = .ok (.dup, 1) := by decide +kernel
theorem dC_build_17 : decode bC_build 17 = .ok (.getfield 19, 3) := by decide +kernel
theorem dC_build_20 : decode bC_build 20 = .ok (.iconst 1, 1) := by decide +kernel
theorem dC_build_21 : decode bC_build 21 = .ok (.iadd, 1) := by decide +kernel
theorem dC_build_22 : decode bC_build 22 = .ok (.putfield 19, 3) := by decide +kernel
theorem dC_build_25 : decode bC_build 25 = .ok (.return_, 1) := by decide +kernel
theorem dC_isMissing_0 : decode bC_isMissing 0 = .ok (.aload_n 0, 1) := by decide +kernel
theorem dC_isMissing_1 : decode bC_isMissing 1 = .ok (.getfield 7, 3) := by decide +kernel
theorem dC_isMissing_4 : decode bC_isMissing 4 = .ok (.ifCond .ne 7, 3) := by decide +kernel
theorem dC_isMissing_7 : decode bC_isMissing 7 = .ok (.iconst 1, 1) := by decide +kernel
theorem dC_isMissing_8 : decode bC_isMissing 8 = .ok (.goto 4, 3) := by decide +kernel
theorem dC_isMissing_11 : decode bC_isMissing 11 = .ok (.iconst 0, 1) := by decide +kernel
theorem dC_isMissing_12 : decode bC_isMissing 12 = .ok (.ireturn, 1) := by decide +kernel
theorem dC_seats_0 : decode bC_seats 0 = .ok (.iconst 2, 1) := by decide +kernel
theorem dC_seats_1 : decode bC_seats 1 = .ok (.aload_n 0, 1) := by decide +kernel
theorem dC_seats_2 : decode bC_seats 2 = .ok (.getfield 7, 3) := by decide +kernel
theorem dC_seats_5 : decode bC_seats 5 = .ok (.imul, 1) := by decide +kernel
theorem dC_seats_6 : decode bC_seats 6 = .ok (.aload_n 0, 1) := by decide +kernel
theorem dC_seats_7 : decode bC_seats 7 = .ok (.getfield 13, 3) := by decide +kernel
theorem dC_seats_10 : decode bC_seats 10 = .ok (.imul, 1) := by decide +kernel
theorem dC_seats_11 : decode bC_seats 11 = .ok (.ireturn, 1) := by decide +kernel
theorem dC_hasSeat_0 : decode bC_hasSeat 0 = .ok (.iload_n 1, 1) := by decide +kernel
theorem dC_hasSeat_1 : decode bC_hasSeat 1 = .ok (.iconst 0, 1) := by decide +kernel
theorem dC_hasSeat_2 : decode bC_hasSeat 2 = .ok (.aload_n 0, 1) := by decide +kernel
theorem dC_hasSeat_3 : decode bC_hasSeat 3 = .ok (.getfield 7, 3) := by decide +kernel
theorem dC_hasSeat_6 : decode bC_hasSeat 6 = .ok (.iconst 1, 1) := by decide +kernel
theorem dC_hasSeat_7 : decode bC_hasSeat 7 = .ok (.isub, 1) := by decide +kernel
theorem dC_hasSeat_8 : decode bC_hasSeat 8 = .ok (.invokestatic 22, 3) := by decide +kernel
theorem dC_hasSeat_11 : decode bC_hasSeat 11 = .ok (.ifCond .ne 30, 3) := by decide +kernel
theorem dC_hasSeat_14 : decode bC_hasSeat 14 = .ok (.iload_n 2, 1) := by decide +kernel
theorem dC_hasSeat_15 : decode bC_hasSeat 15 = .ok (.iconst 0, 1) := by decide +kernel
theorem dC_hasSeat_16 : decode bC_hasSeat 16 = .ok (.iconst 1, 1) := by decide +kernel
theorem dC_hasSeat_17 : decode bC_hasSeat 17 = .ok (.invokestatic 22, 3) := by decide +kernel
theorem dC_hasSeat_20 : decode bC_hasSeat 20 = .ok (.ifCond .ne 21, 3) := by decide +kernel
theorem dC_hasSeat_23 : decode bC_hasSeat 23 = .ok (.iload_n 3, 1) := by decide +kernel
theorem dC_hasSeat_24 : decode bC_hasSeat 24 = .ok (.iconst 0, 1) := by decide +kernel
theorem dC_hasSeat_25 : decode bC_hasSeat 25 = .ok (.aload_n 0, 1) := by decide +kernel
theorem dC_hasSeat_26 : decode bC_hasSeat 26 = .ok (.getfield 13, 3) := by decide +kernel
theorem dC_hasSeat_29 : decode bC_hasSeat 29 = .ok (.iconst 1, 1) := by decide +kernel
theorem dC_hasSeat_30 : decode bC_hasSeat 30 = .ok (.isub, 1) := by decide +kernel
theorem dC_hasSeat_31 : decode bC_hasSeat 31 = .ok (.invokestatic 22, 3) := by decide +kernel
theorem dC_hasSeat_34 : decode bC_hasSeat 34 = .ok (.ifCond .ne 7, 3) := by decide +kernel
theorem dC_hasSeat_37 : decode bC_hasSeat 37 = .ok (.iconst 1, 1) := by decide +kernel
theorem dC_hasSeat_38 : decode bC_hasSeat 38 = .ok (.goto 4, 3) := by decide +kernel
theorem dC_hasSeat_41 : decode bC_hasSeat 41 = .ok (.iconst 0, 1) := by decide +kernel
theorem dC_hasSeat_42 : decode bC_hasSeat 42 = .ok (.ireturn, 1) := by decide +kernel
theorem dC_frontRows_0 : decode bC_frontRows 0 = .ok (.aload_n 0, 1) := by decide +kernel
theorem dC_frontRows_1 : decode bC_frontRows 1 = .ok (.getfield 7, 3) := by decide +kernel
theorem dC_frontRows_4 : decode bC_frontRows 4 = .ok (.iconst 1, 1) := by decide +kernel
theorem dC_frontRows_5 : decode bC_frontRows 5 = .ok (.iadd, 1) := by decide +kernel
theorem dC_frontRows_6 : decode bC_frontRows 6 = .ok (.iconst 2, 1) := by decide +kernel
theorem dC_frontRows_7 : decode bC_frontRows 7 = .ok (.idiv, 1) := by decide +kernel
theorem dC_frontRows_8 : decode bC_frontRows 8 = .ok (.ireturn, 1) := by decide +kernel
theorem dK_read_0 : decode bK_read 0 = .ok (.aload_n 0, 1) := by decide +kernel
theorem dK_read_1 : decode bK_read 1 = .ok (.iconst 0, 1) := by decide +kernel
theorem dK_read_2 : decode bK_read 2 = .ok (.putfield 19, 3) := by decide +kernel
theorem dK_read_5 : decode bK_read 5 = .ok (.iconst 0, 1) := by decide +kernel
theorem dK_read_6 : decode bK_read 6 = .ok (.istore_n 2, 1) := by decide +kernel
theorem dK_read_7 : decode bK_read 7 = .ok (.iload_n 2, 1) := by decide +kernel
theorem dK_read_8 : decode bK_read 8 = .ok (.aload_n 1, 1) := by decide +kernel
theorem dK_read_9 : decode bK_read 9 = .ok (.getfield 23, 3) := by decide +kernel
theorem dK_read_12 : decode bK_read 12 = .ok (.if_icmp .ge 100, 3) := by decide +kernel
theorem dK_read_15 : decode bK_read 15 = .ok (.aload_n 1, 1) := by decide +kernel
theorem dK_read_16 : decode bK_read 16 = .ok (.getfield 26, 3) := by decide +kernel
theorem dK_read_19 : decode bK_read 19 = .ok (.iload_n 2, 1) := by decide +kernel
theorem dK_read_20 : decode bK_read 20 = .ok (.caload, 1) := by decide +kernel
theorem dK_read_21 : decode bK_read 21 = .ok (.istore_n 3, 1) := by decide +kernel
theorem dK_read_22 : decode bK_read 22 = .ok (.iload_n 3, 1) := by decide +kernel
theorem dK_read_23 : decode bK_read 23 = .ok (.bipush 44, 2) := by decide +kernel
theorem dK_read_25 : decode bK_read 25 = .ok (.if_icmp .ne 6, 3) := by decide +kernel
theorem dK_read_28 : decode bK_read 28 = .ok (.goto 78, 3) := by decide +kernel
theorem dK_read_31 : decode bK_read 31 = .ok (.iload_n 3, 1) := by decide +kernel
theorem dK_read_32 : decode bK_read 32 = .ok (.bipush 49, 2) := by decide +kernel
theorem dK_read_34 : decode bK_read 34 = .ok (.if_icmp .lt 34, 3) := by decide +kernel
theorem dK_read_37 : decode bK_read 37 = .ok (.iload_n 3, 1) := by decide +kernel
theorem dK_read_38 : decode bK_read 38 = .ok (.bipush 57, 2) := by decide +kernel
theorem dK_read_40 : decode bK_read 40 = .ok (.if_icmp .gt 28, 3) := by decide +kernel
theorem dK_read_43 : decode bK_read 43 = .ok (.aload_n 0, 1) := by decide +kernel
theorem dK_read_44 : decode bK_read 44 = .ok (.getfield 19, 3) := by decide +kernel
theorem dK_read_47 : decode bK_read 47 = .ok (.ifCond .le 59, 3) := by decide +kernel
theorem dK_read_50 : decode bK_read 50 = .ok (.aload_n 0, 1) := by decide +kernel
theorem dK_read_51 : decode bK_read 51 = .ok (.getfield 15, 3) := by decide +kernel
theorem dK_read_54 : decode bK_read 54 = .ok (.aload_n 0, 1) := by decide +kernel
theorem dK_read_55 : decode bK_read 55 = .ok (.getfield 19, 3) := by decide +kernel
theorem dK_read_58 : decode bK_read 58 = .ok (.iconst 1, 1) := by decide +kernel
theorem dK_read_59 : decode bK_read 59 = .ok (.isub, 1) := by decide +kernel
theorem dK_read_60 : decode bK_read 60 = .ok (.iload_n 3, 1) := by decide +kernel
theorem dK_read_61 : decode bK_read 61 = .ok (.bipush 48, 2) := by decide +kernel
theorem dK_read_63 : decode bK_read 63 = .ok (.isub, 1) := by decide +kernel
theorem dK_read_64 : decode bK_read 64 = .ok (.iastore, 1) := by decide +kernel
theorem dK_read_65 : decode bK_read 65 = .ok (.goto 41, 3) := by decide +kernel
theorem dK_read_68 : decode bK_read 68 = .ok (.aload_n 0, 1) := by decide +kernel
theorem dK_read_69 : decode bK_read 69 = .ok (.getfield 19, 3) := by decide +kernel
theorem dK_read_72 : decode bK_read 72 = .ok (.iconst 4, 1) := by decide +kernel
theorem dK_read_73 : decode bK_read 73 = .ok (.if_icmp .ge 33, 3) := by decide +kernel
theorem dK_read_76 : decode bK_read 76 = .ok (.aload_n 0, 1) := by decide +kernel
theorem dK_read_77 : decode bK_read 77 = .ok (.getfield 9, 3) := by decide +kernel
theorem dK_read_80 : decode bK_read 80 = .ok (.aload_n 0, 1) := by decide +kernel
theorem dK_read_81 : decode bK_read 81 = .ok (.getfield 19, 3) := by decide +kernel
theorem dK_read_84 : decode bK_read 84 = .ok (.iload_n 3, 1) := by decide +kernel
theorem dK_read_85 : decode bK_read 85 = .ok (.castore, 1) := by decide +kernel
theorem dK_read_86 : decode bK_read 86 = .ok (.aload_n 0, 1) := by decide +kernel
theorem dK_read_87 : decode bK_read 87 = .ok (.getfield 15, 3) := by decide +kernel
theorem dK_read_90 : decode bK_read 90 = .ok (.aload_n 0, 1) := by decide +kernel
theorem dK_read_91 : decode bK_read 91 = .ok (.getfield 19, 3) := by decide +kernel
theorem dK_read_94 : decode bK_read 94 = .ok (.iconst 1, 1) := by decide +kernel
theorem dK_read_95 : decode bK_read 95 = .ok (.iastore, 1) := by decide +kernel
theorem dK_read_96 : decode bK_read 96 = .ok (.aload_n 0, 1) := by decide +kernel
theorem dK_read_97 : decode bK_read 97 = .ok (.dup, 1) := by decide +kernel
theorem dK_read_98 : decode bK_read 98 = .ok (.getfield 19, 3) := by decide +kernel
theorem dK_read_101 : decode bK_read 101 = .ok (.iconst 1, 1) := by decide +kernel
theorem dK_read_102 : decode bK_read 102 = .ok (.iadd, 1) := by decide +kernel
theorem dK_read_103 : decode bK_read 103 = .ok (.putfield 19, 3) := by decide +kernel
theorem dK_read_106 : decode bK_read 106 = .ok (.iinc 2 1, 3) := by decide +kernel
theorem dK_read_109 : decode bK_read 109 = .ok (.goto (-102), 3) := by decide +kernel
theorem dK_read_112 : decode bK_read 112 = .ok (.return_, 1) := by decide +kernel
theorem dK_arrange_0 : decode bK_arrange 0 = .ok (.aload_n 1, 1) := by decide +kernel
theorem dK_arrange_1 : decode bK_arrange 1 = .ok (.iconst 0, 1) := by decide +kernel
theorem dK_arrange_2 : decode bK_arrange 2 = .ok (.putfield 29, 3) := by decide +kernel
theorem dK_arrange_5 : decode bK_arrange 5 = .ok (.iconst 0, 1) := by decide +kernel
theorem dK_arrange_6 : decode bK_arrange 6 = .ok (.istore 5, 2) := by decide +kernel
theorem dK_arrange_8 : decode bK_arrange 8 = .ok (.iload 5, 2) := by decide +kernel
theorem dK_arrange_10 : decode bK_arrange 10 = .ok (.aload_n 2, 1) := by decide +kernel
theorem dK_arrange_11 : decode bK_arrange 11 = .ok (.getfield 32, 3) := by decide +kernel
theorem dK_arrange_14 : decode bK_arrange 14 = .ok (.if_icmp .ge 56, 3) := by decide +kernel
theorem dK_arrange_17 : decode bK_arrange 17 = .ok (.aload_n 1, 1) := by decide +kernel
theorem dK_arrange_18 : decode bK_arrange 18 = .ok (.getfield 29, 3) := by decide +kernel
theorem dK_arrange_21 : decode bK_arrange 21 = .ok (.istore 6, 2) := by decide +kernel
theorem dK_arrange_23 : decode bK_arrange 23 = .ok (.iload 6, 2) := by decide +kernel
theorem dK_arrange_25 : decode bK_arrange 25 = .ok (.ifCond .le 31, 3) := by decide +kernel
theorem dK_arrange_28 : decode bK_arrange 28 = .ok (.aload_n 0, 1) := by decide +kernel
theorem dK_arrange_29 : decode bK_arrange 29 = .ok (.iload 5, 2) := by decide +kernel
theorem dK_arrange_31 : decode bK_arrange 31 = .ok (.aload_n 1, 1) := by decide +kernel
theorem dK_arrange_32 : decode bK_arrange 32 = .ok (.getfield 35, 3) := by decide +kernel
theorem dK_arrange_35 : decode bK_arrange 35 = .ok (.iload 6, 2) := by decide +kernel
theorem dK_arrange_37 : decode bK_arrange 37 = .ok (.iconst 1, 1) := by decide +kernel
theorem dK_arrange_38 : decode bK_arrange 38 = .ok (.isub, 1) := by decide +kernel
theorem dK_arrange_39 : decode bK_arrange 39 = .ok (.iaload, 1) := by decide +kernel
theorem dK_arrange_40 : decode bK_arrange 40 = .ok (.aload_n 2, 1) := by decide +kernel
theorem dK_arrange_41 : decode bK_arrange 41 = .ok (.aload_n 3, 1) := by decide +kernel
theorem dK_arrange_42 : decode bK_arrange 42 = .ok (.iload 4, 2) := by decide +kernel
theorem dK_arrange_44 : decode bK_arrange 44 = .ok (.invokevirtual 38, 3) := by decide +kernel
theorem dK_arrange_47 : decode bK_arrange 47 = .ok (.ifCond .eq 9, 3) := by decide +kernel
theorem dK_arrange_50 : decode bK_arrange 50 = .ok (.iinc 6 (-1), 3) := by decide +kernel
theorem dK_arrange_53 : decode bK_arrange 53 = .ok (.goto (-30), 3) := by decide +kernel
theorem dK_arrange_56 : decode bK_arrange 56 = .ok (.aload_n 1, 1) := by decide +kernel
theorem dK_arrange_57 : decode bK_arrange 57 = .ok (.iload 6, 2) := by decide +kernel
theorem dK_arrange_59 : decode bK_arrange 59 = .ok (.iload 5, 2) := by decide +kernel
theorem dK_arrange_61 : decode bK_arrange 61 = .ok (.invokevirtual 42, 3) := by decide +kernel
theorem dK_arrange_64 : decode bK_arrange 64 = .ok (.iinc 5 1, 3) := by decide +kernel
theorem dK_arrange_67 : decode bK_arrange 67 = .ok (.goto (-59), 3) := by decide +kernel
theorem dK_arrange_70 : decode bK_arrange 70 = .ok (.iconst 0, 1) := by decide +kernel
theorem dK_arrange_71 : decode bK_arrange 71 = .ok (.istore 5, 2) := by decide +kernel
theorem dK_arrange_73 : decode bK_arrange 73 = .ok (.iload 5, 2) := by decide +kernel
theorem dK_arrange_75 : decode bK_arrange 75 = .ok (.aload_n 2, 1) := by decide +kernel
theorem dK_arrange_76 : decode bK_arrange 76 = .ok (.getfield 32, 3) := by decide +kernel
theorem dK_arrange_79 : decode bK_arrange 79 = .ok (.if_icmp .ge 45, 3) := by decide +kernel
theorem dK_arrange_82 : decode bK_arrange 82 = .ok (.aload_n 2, 1) := by decide +kernel
theorem dK_arrange_83 : decode bK_arrange 83 = .ok (.getfield 46, 3) := by decide +kernel
theorem dK_arrange_86 : decode bK_arrange 86 = .ok (.iload 5, 2) := by decide +kernel
theorem dK_arrange_88 : decode bK_arrange 88 = .ok (.iaload, 1) := by decide +kernel
theorem dK_arrange_89 : decode bK_arrange 89 = .ok (.iconst 3, 1) := by decide +kernel
theorem dK_arrange_90 : decode bK_arrange 90 = .ok (.if_icmp .ne 28, 3) := by decide +kernel
theorem dK_arrange_93 : decode bK_arrange 93 = .ok (.aload_n 1, 1) := by decide +kernel
theorem dK_arrange_94 : decode bK_arrange 94 = .ok (.iload 5, 2) := by decide +kernel
theorem dK_arrange_96 : decode bK_arrange 96 = .ok (.invokevirtual 49, 3) := by decide +kernel
theorem dK_arrange_99 : decode bK_arrange 99 = .ok (.aload_n 1, 1) := by decide +kernel
theorem dK_arrange_100 : decode bK_arrange 100 = .ok (.aload_n 1, 1) := by decide +kernel
theorem dK_arrange_101 : decode bK_arrange 101 = .ok (.aload_n 2, 1) := by decide +kernel
theorem dK_arrange_102 : decode bK_arrange 102 = .ok (.getfield 53, 3) := by decide +kernel
theorem dK_arrange_105 : decode bK_arrange 105 = .ok (.iload 5, 2) := by decide +kernel
theorem dK_arrange_107 : decode bK_arrange 107 = .ok (.iaload, 1) := by decide +kernel
theorem dK_arrange_108 : decode bK_arrange 108 = .ok (.invokevirtual 56, 3) := by decide +kernel
theorem dK_arrange_111 : decode bK_arrange 111 = .ok (.iconst 1, 1) := by decide +kernel
theorem dK_arrange_112 : decode bK_arrange 112 = .ok (.iadd, 1) := by decide +kernel
theorem dK_arrange_113 : decode bK_arrange 113 = .ok (.iload 5, 2) := by decide +kernel
theorem dK_arrange_115 : decode bK_arrange 115 = .ok (.invokevirtual 42, 3) := by decide +kernel
theorem dK_arrange_118 : decode bK_arrange 118 = .ok (.iinc 5 1, 3) := by decide +kernel
theorem dK_arrange_121 : decode bK_arrange 121 = .ok (.goto (-48), 3) := by decide +kernel
theorem dK_arrange_124 : decode bK_arrange 124 = .ok (.return_, 1) := by decide +kernel
theorem dK_isAhead_0 : decode bK_isAhead 0 = .ok (.aload_n 3, 1) := by decide +kernel
theorem dK_isAhead_1 : decode bK_isAhead 1 = .ok (.getfield 46, 3) := by decide +kernel
theorem dK_isAhead_4 : decode bK_isAhead 4 = .ok (.iload_n 1, 1) := by decide +kernel
theorem dK_isAhead_5 : decode bK_isAhead 5 = .ok (.iaload, 1) := by decide +kernel
theorem dK_isAhead_6 : decode bK_isAhead 6 = .ok (.invokestatic 60, 3) := by decide +kernel
theorem dK_isAhead_9 : decode bK_isAhead 9 = .ok (.istore 6, 2) := by decide +kernel
theorem dK_isAhead_11 : decode bK_isAhead 11 = .ok (.aload_n 3, 1) := by decide +kernel
theorem dK_isAhead_12 : decode bK_isAhead 12 = .ok (.getfield 46, 3) := by decide +kernel
theorem dK_isAhead_15 : decode bK_isAhead 15 = .ok (.iload_n 2, 1) := by decide +kernel
theorem dK_isAhead_16 : decode bK_isAhead 16 = .ok (.iaload, 1) := by decide +kernel
theorem dK_isAhead_17 : decode bK_isAhead 17 = .ok (.invokestatic 60, 3) := by decide +kernel
theorem dK_isAhead_20 : decode bK_isAhead 20 = .ok (.istore 7, 2) := by decide +kernel
theorem dK_isAhead_22 : decode bK_isAhead 22 = .ok (.iload 6, 2) := by decide +kernel
theorem dK_isAhead_24 : decode bK_isAhead 24 = .ok (.iload 7, 2) := by decide +kernel
theorem dK_isAhead_26 : decode bK_isAhead 26 = .ok (.if_icmp .eq 16, 3) := by decide +kernel
theorem dK_isAhead_29 : decode bK_isAhead 29 = .ok (.iload 6, 2) := by decide +kernel
theorem dK_isAhead_31 : decode bK_isAhead 31 = .ok (.iload 7, 2) := by decide +kernel
theorem dK_isAhead_33 : decode bK_isAhead 33 = .ok (.if_icmp .ge 7, 3) := by decide +kernel
theorem dK_isAhead_36 : decode bK_isAhead 36 = .ok (.iconst 1, 1) := by decide +kernel
theorem dK_isAhead_37 : decode bK_isAhead 37 = .ok (.goto 4, 3) := by decide +kernel
theorem dK_isAhead_40 : decode bK_isAhead 40 = .ok (.iconst 0, 1) := by decide +kernel
theorem dK_isAhead_41 : decode bK_isAhead 41 = .ok (.ireturn, 1) := by decide +kernel
theorem dK_isAhead_42 : decode bK_isAhead 42 = .ok (.iconst 0, 1) := by decide +kernel
theorem dK_isAhead_43 : decode bK_isAhead 43 = .ok (.istore 8, 2) := by decide +kernel
theorem dK_isAhead_45 : decode bK_isAhead 45 = .ok (.iload 8, 2) := by decide +kernel
theorem dK_isAhead_47 : decode bK_isAhead 47 = .ok (.aload_n 0, 1) := by decide +kernel
theorem dK_isAhead_48 : decode bK_isAhead 48 = .ok (.getfield 19, 3) := by decide +kernel
theorem dK_isAhead_51 : decode bK_isAhead 51 = .ok (.if_icmp .ge 57, 3) := by decide +kernel
theorem dK_isAhead_54 : decode bK_isAhead 54 = .ok (.aload_n 0, 1) := by decide +kernel
theorem dK_isAhead_55 : decode bK_isAhead 55 = .ok (.iload 8, 2) := by decide +kernel
theorem dK_isAhead_57 : decode bK_isAhead 57 = .ok (.iload_n 1, 1) := by decide +kernel
theorem dK_isAhead_58 : decode bK_isAhead 58 = .ok (.aload_n 3, 1) := by decide +kernel
theorem dK_isAhead_59 : decode bK_isAhead 59 = .ok (.aload 4, 2) := by decide +kernel
theorem dK_isAhead_61 : decode bK_isAhead 61 = .ok (.iload 5, 2) := by decide +kernel
theorem dK_isAhead_63 : decode bK_isAhead 63 = .ok (.invokevirtual 63, 3) := by decide +kernel
theorem dK_isAhead_66 : decode bK_isAhead 66 = .ok (.istore 9, 2) := by decide +kernel
theorem dK_isAhead_68 : decode bK_isAhead 68 = .ok (.aload_n 0, 1) := by decide +kernel
theorem dK_isAhead_69 : decode bK_isAhead 69 = .ok (.iload 8, 2) := by decide +kernel
theorem dK_isAhead_71 : decode bK_isAhead 71 = .ok (.iload_n 2, 1) := by decide +kernel
theorem dK_isAhead_72 : decode bK_isAhead 72 = .ok (.aload_n 3, 1) := by decide +kernel
theorem dK_isAhead_73 : decode bK_isAhead 73 = .ok (.aload 4, 2) := by decide +kernel
theorem dK_isAhead_75 : decode bK_isAhead 75 = .ok (.iload 5, 2) := by decide +kernel
theorem dK_isAhead_77 : decode bK_isAhead 77 = .ok (.invokevirtual 63, 3) := by decide +kernel
theorem dK_isAhead_80 : decode bK_isAhead 80 = .ok (.istore 10, 2) := by decide +kernel
theorem dK_isAhead_82 : decode bK_isAhead 82 = .ok (.iload 9, 2) := by decide +kernel
theorem dK_isAhead_84 : decode bK_isAhead 84 = .ok (.iload 10, 2) := by decide +kernel
theorem dK_isAhead_86 : decode bK_isAhead 86 = .ok (.if_icmp .eq 16, 3) := by decide +kernel
theorem dK_isAhead_89 : decode bK_isAhead 89 = .ok (.iload 9, 2) := by decide +kernel
theorem dK_isAhead_91 : decode bK_isAhead 91 = .ok (.iload 10, 2) := by decide +kernel
theorem dK_isAhead_93 : decode bK_isAhead 93 = .ok (.if_icmp .ge 7, 3) := by decide +kernel
theorem dK_isAhead_96 : decode bK_isAhead 96 = .ok (.iconst 1, 1) := by decide +kernel
theorem dK_isAhead_97 : decode bK_isAhead 97 = .ok (.goto 4, 3) := by decide +kernel
theorem dK_isAhead_100 : decode bK_isAhead 100 = .ok (.iconst 0, 1) := by decide +kernel
theorem dK_isAhead_101 : decode bK_isAhead 101 = .ok (.ireturn, 1) := by decide +kernel
theorem dK_isAhead_102 : decode bK_isAhead 102 = .ok (.iinc 8 1, 3) := by decide +kernel
theorem dK_isAhead_105 : decode bK_isAhead 105 = .ok (.goto (-60), 3) := by decide +kernel
theorem dK_isAhead_108 : decode bK_isAhead 108 = .ok (.iload_n 1, 1) := by decide +kernel
theorem dK_isAhead_109 : decode bK_isAhead 109 = .ok (.iload_n 2, 1) := by decide +kernel
theorem dK_isAhead_110 : decode bK_isAhead 110 = .ok (.if_icmp .ge 7, 3) := by decide +kernel
theorem dK_isAhead_113 : decode bK_isAhead 113 = .ok (.iconst 1, 1) := by decide +kernel
theorem dK_isAhead_114 : decode bK_isAhead 114 = .ok (.goto 4, 3) := by decide +kernel
theorem dK_isAhead_117 : decode bK_isAhead 117 = .ok (.iconst 0, 1) := by decide +kernel
theorem dK_isAhead_118 : decode bK_isAhead 118 = .ok (.ireturn, 1) := by decide +kernel
theorem dK_rankOf_0 : decode bK_rankOf 0 = .ok (.iload_n 0, 1) := by decide +kernel
theorem dK_rankOf_1 : decode bK_rankOf 1 = .ok (.iconst 2, 1) := by decide +kernel
theorem dK_rankOf_2 : decode bK_rankOf 2 = .ok (.if_icmp .ne 5, 3) := by decide +kernel
theorem dK_rankOf_5 : decode bK_rankOf 5 = .ok (.iconst 0, 1) := by decide +kernel
theorem dK_rankOf_6 : decode bK_rankOf 6 = .ok (.ireturn, 1) := by decide +kernel
theorem dK_rankOf_7 : decode bK_rankOf 7 = .ok (.iload_n 0, 1) := by decide +kernel
theorem dK_rankOf_8 : decode bK_rankOf 8 = .ok (.iconst 1, 1) := by decide +kernel
theorem dK_rankOf_9 : decode bK_rankOf 9 = .ok (.if_icmp .ne 7, 3) := by decide +kernel
theorem dK_rankOf_12 : decode bK_rankOf 12 = .ok (.iconst 2, 1) := by decide +kernel
theorem dK_rankOf_13 : decode bK_rankOf 13 = .ok (.goto 4, 3) := by decide +kernel
theorem dK_rankOf_16 : decode bK_rankOf 16 = .ok (.iconst 1, 1) := by decide +kernel
theorem dK_rankOf_17 : decode bK_rankOf 17 = .ok (.ireturn, 1) := by decide +kernel
theorem dK_valueOf_0 : decode bK_valueOf 0 = .ok (.iconst 1, 1) := by decide +kernel
theorem dK_valueOf_1 : decode bK_valueOf 1 = .ok (.aload_n 0, 1) := by decide +kernel
theorem dK_valueOf_2 : decode bK_valueOf 2 = .ok (.getfield 15, 3) := by decide +kernel
theorem dK_valueOf_5 : decode bK_valueOf 5 = .ok (.iload_n 1, 1) := by decide +kernel
theorem dK_valueOf_6 : decode bK_valueOf 6 = .ok (.iaload, 1) := by decide +kernel
theorem dK_valueOf_7 : decode bK_valueOf 7 = .ok (.invokestatic 67, 3) := by decide +kernel
theorem dK_valueOf_10 : decode bK_valueOf 10 = .ok (.istore 6, 2) := by decide +kernel
theorem dK_valueOf_12 : decode bK_valueOf 12 = .ok (.aload_n 0, 1) := by decide +kernel
theorem dK_valueOf_13 : decode bK_valueOf 13 = .ok (.getfield 9, 3) := by decide +kernel
theorem dK_valueOf_16 : decode bK_valueOf 16 = .ok (.iload_n 1, 1) := by decide +kernel
theorem dK_valueOf_17 : decode bK_valueOf 17 = .ok (.caload, 1) := by decide +kernel
theorem dK_valueOf_18 : decode bK_valueOf 18 = .ok (.lookupswitch 117 #[(97, 94), (98, 58), (102, 76), (111, 110), (115, 101), (119, 86)], 58) := by decide +kernel
theorem dK_valueOf_76 : decode bK_valueOf 76 = .ok (.aload 4, 2) := by decide +kernel
theorem dK_valueOf_78 : decode bK_valueOf 78 = .ok (.getfield 73, 3) := by decide +kernel
theorem dK_valueOf_81 : decode bK_valueOf 81 = .ok (.iconst 1, 1) := by decide +kernel
theorem dK_valueOf_82 : decode bK_valueOf 82 = .ok (.isub, 1) := by decide +kernel
theorem dK_valueOf_83 : decode bK_valueOf 83 = .ok (.aload_n 3, 1) := by decide +kernel
theorem dK_valueOf_84 : decode bK_valueOf 84 = .ok (.getfield 78, 3) := by decide +kernel
theorem dK_valueOf_87 : decode bK_valueOf 87 = .ok (.iload_n 2, 1) := by decide +kernel
theorem dK_valueOf_88 : decode bK_valueOf 88 = .ok (.iaload, 1) := by decide +kernel
theorem dK_valueOf_89 : decode bK_valueOf 89 = .ok (.isub, 1) := by decide +kernel
theorem dK_valueOf_90 : decode bK_valueOf 90 = .ok (.iload 6, 2) := by decide +kernel
theorem dK_valueOf_92 : decode bK_valueOf 92 = .ok (.idiv, 1) := by decide +kernel
theorem dK_valueOf_93 : decode bK_valueOf 93 = .ok (.ireturn, 1) := by decide +kernel
theorem dK_valueOf_94 : decode bK_valueOf 94 = .ok (.aload_n 3, 1) := by decide +kernel
theorem dK_valueOf_95 : decode bK_valueOf 95 = .ok (.getfield 78, 3) := by decide +kernel
theorem dK_valueOf_98 : decode bK_valueOf 98 = .ok (.iload_n 2, 1) := by decide +kernel
theorem dK_valueOf_99 : decode bK_valueOf 99 = .ok (.iaload, 1) := by decide +kernel
theorem dK_valueOf_100 : decode bK_valueOf 100 = .ok (.iload 6, 2) := by decide +kernel
theorem dK_valueOf_102 : decode bK_valueOf 102 = .ok (.idiv, 1) := by decide +kernel
theorem dK_valueOf_103 : decode bK_valueOf 103 = .ok (.ireturn, 1) := by decide +kernel
theorem dK_valueOf_104 : decode bK_valueOf 104 = .ok (.aload_n 3, 1) := by decide +kernel
theorem dK_valueOf_105 : decode bK_valueOf 105 = .ok (.getfield 81, 3) := by decide +kernel
theorem dK_valueOf_108 : decode bK_valueOf 108 = .ok (.iload_n 2, 1) := by decide +kernel
theorem dK_valueOf_109 : decode bK_valueOf 109 = .ok (.iaload, 1) := by decide +kernel
theorem dK_valueOf_110 : decode bK_valueOf 110 = .ok (.ineg, 1) := by decide +kernel
theorem dK_valueOf_111 : decode bK_valueOf 111 = .ok (.ireturn, 1) := by decide +kernel
theorem dK_valueOf_112 : decode bK_valueOf 112 = .ok (.aload_n 3, 1) := by decide +kernel
theorem dK_valueOf_113 : decode bK_valueOf 113 = .ok (.getfield 81, 3) := by decide +kernel
theorem dK_valueOf_116 : decode bK_valueOf 116 = .ok (.iload_n 2, 1) := by decide +kernel
theorem dK_valueOf_117 : decode bK_valueOf 117 = .ok (.iaload, 1) := by decide +kernel
theorem dK_valueOf_118 : decode bK_valueOf 118 = .ok (.ireturn, 1) := by decide +kernel
theorem dK_valueOf_119 : decode bK_valueOf 119 = .ok (.aload_n 3, 1) := by decide +kernel
theorem dK_valueOf_120 : decode bK_valueOf 120 = .ok (.getfield 78, 3) := by decide +kernel
theorem dK_valueOf_123 : decode bK_valueOf 123 = .ok (.iload_n 2, 1) := by decide +kernel
theorem dK_valueOf_124 : decode bK_valueOf 124 = .ok (.iaload, 1) := by decide +kernel
theorem dK_valueOf_125 : decode bK_valueOf 125 = .ok (.iconst 2, 1) := by decide +kernel
theorem dK_valueOf_126 : decode bK_valueOf 126 = .ok (.irem, 1) := by decide +kernel
theorem dK_valueOf_127 : decode bK_valueOf 127 = .ok (.ireturn, 1) := by decide +kernel
theorem dK_valueOf_128 : decode bK_valueOf 128 = .ok (.aload_n 3, 1) := by decide +kernel
theorem dK_valueOf_129 : decode bK_valueOf 129 = .ok (.getfield 84, 3) := by decide +kernel
theorem dK_valueOf_132 : decode bK_valueOf 132 = .ok (.iload_n 2, 1) := by decide +kernel
theorem dK_valueOf_133 : decode bK_valueOf 133 = .ok (.iaload, 1) := by decide +kernel
theorem dK_valueOf_134 : decode bK_valueOf 134 = .ok (.ireturn, 1) := by decide +kernel
theorem dK_valueOf_135 : decode bK_valueOf 135 = .ok (.aload_n 3, 1) := by decide +kernel
theorem dK_valueOf_136 : decode bK_valueOf 136 = .ok (.getfield 87, 3) := by decide +kernel
theorem dK_valueOf_139 : decode bK_valueOf 139 = .ok (.iload_n 2, 1) := by decide +kernel
theorem dK_valueOf_140 : decode bK_valueOf 140 = .ok (.iaload, 1) := by decide +kernel
theorem dK_valueOf_141 : decode bK_valueOf 141 = .ok (.iload 5, 2) := by decide +kernel
theorem dK_valueOf_143 : decode bK_valueOf 143 = .ok (.invokestatic 90, 3) := by decide +kernel
theorem dK_valueOf_146 : decode bK_valueOf 146 = .ok (.ireturn, 1) := by decide +kernel
theorem dI_keep_0 : decode bI_keep 0 = .ok (.aload_n 0, 1) := by decide +kernel
theorem dI_keep_1 : decode bI_keep 1 = .ok (.iconst 1, 1) := by decide +kernel
theorem dI_keep_2 : decode bI_keep 2 = .ok (.putfield 18, 3) := by decide +kernel
theorem dI_keep_5 : decode bI_keep 5 = .ok (.aload_n 0, 1) := by decide +kernel
theorem dI_keep_6 : decode bI_keep 6 = .ok (.aload_n 1, 1) := by decide +kernel
theorem dI_keep_7 : decode bI_keep 7 = .ok (.getfield 22, 3) := by decide +kernel
theorem dI_keep_10 : decode bI_keep 10 = .ok (.putfield 28, 3) := by decide +kernel
theorem dI_keep_13 : decode bI_keep 13 = .ok (.aload_n 1, 1) := by decide +kernel
theorem dI_keep_14 : decode bI_keep 14 = .ok (.getfield 29, 3) := by decide +kernel
theorem dI_keep_17 : decode bI_keep 17 = .ok (.iconst 0, 1) := by decide +kernel
theorem dI_keep_18 : decode bI_keep 18 = .ok (.aload_n 0, 1) := by decide +kernel
theorem dI_keep_19 : decode bI_keep 19 = .ok (.getfield 9, 3) := by decide +kernel
theorem dI_keep_22 : decode bI_keep 22 = .ok (.iconst 0, 1) := by decide +kernel
theorem dI_keep_23 : decode bI_keep 23 = .ok (.bipush 12, 2) := by decide +kernel
theorem dI_keep_25 : decode bI_keep 25 = .ok (.invokestatic 30, 3) := by decide +kernel
theorem dI_keep_28 : decode bI_keep 28 = .ok (.aload_n 1, 1) := by decide +kernel
theorem dI_keep_29 : decode bI_keep 29 = .ok (.getfield 36, 3) := by decide +kernel
theorem dI_keep_32 : decode bI_keep 32 = .ok (.iconst 0, 1) := by decide +kernel
theorem dI_keep_33 : decode bI_keep 33 = .ok (.aload_n 0, 1) := by decide +kernel
theorem dI_keep_34 : decode bI_keep 34 = .ok (.getfield 15, 3) := by decide +kernel
theorem dI_keep_37 : decode bI_keep 37 = .ok (.iconst 0, 1) := by decide +kernel
theorem dI_keep_38 : decode bI_keep 38 = .ok (.bipush 12, 2) := by decide +kernel
theorem dI_keep_40 : decode bI_keep 40 = .ok (.invokestatic 30, 3) := by decide +kernel
theorem dI_keep_43 : decode bI_keep 43 = .ok (.return_, 1) := by decide +kernel
theorem dI_giveBack_0 : decode bI_giveBack 0 = .ok (.aload_n 1, 1) := by decide +kernel
theorem dI_giveBack_1 : decode bI_giveBack 1 = .ok (.aload_n 0, 1) := by decide +kernel
theorem dI_giveBack_2 : decode bI_giveBack 2 = .ok (.getfield 28, 3) := by decide +kernel
theorem dI_giveBack_5 : decode bI_giveBack 5 = .ok (.putfield 22, 3) := by decide +kernel
theorem dI_giveBack_8 : decode bI_giveBack 8 = .ok (.aload_n 0, 1) := by decide +kernel
theorem dI_giveBack_9 : decode bI_giveBack 9 = .ok (.getfield 9, 3) := by decide +kernel
theorem dI_giveBack_12 : decode bI_giveBack 12 = .ok (.iconst 0, 1) := by decide +kernel
theorem dI_giveBack_13 : decode bI_giveBack 13 = .ok (.aload_n 1, 1) := by decide +kernel
theorem dI_giveBack_14 : decode bI_giveBack 14 = .ok (.getfield 29, 3) := by decide +kernel
theorem dI_giveBack_17 : decode bI_giveBack 17 = .ok (.iconst 0, 1) := by decide +kernel
theorem dI_giveBack_18 : decode bI_giveBack 18 = .ok (.bipush 12, 2) := by decide +kernel
theorem dI_giveBack_20 : decode bI_giveBack 20 = .ok (.invokestatic 30, 3) := by decide +kernel
theorem dI_giveBack_23 : decode bI_giveBack 23 = .ok (.aload_n 0, 1) := by decide +kernel
theorem dI_giveBack_24 : decode bI_giveBack 24 = .ok (.getfield 15, 3) := by decide +kernel
theorem dI_giveBack_27 : decode bI_giveBack 27 = .ok (.iconst 0, 1) := by decide +kernel
theorem dI_giveBack_28 : decode bI_giveBack 28 = .ok (.aload_n 1, 1) := by decide +kernel
theorem dI_giveBack_29 : decode bI_giveBack 29 = .ok (.getfield 36, 3) := by decide +kernel
theorem dI_giveBack_32 : decode bI_giveBack 32 = .ok (.iconst 0, 1) := by decide +kernel
theorem dI_giveBack_33 : decode bI_giveBack 33 = .ok (.bipush 12, 2) := by decide +kernel
theorem dI_giveBack_35 : decode bI_giveBack 35 = .ok (.invokestatic 30, 3) := by decide +kernel
theorem dI_giveBack_38 : decode bI_giveBack 38 = .ok (.return_, 1) := by decide +kernel
theorem dL_run_0 : decode bL_run 0 = .ok (.aload_n 0, 1) := by decide +kernel
theorem dL_run_1 : decode bL_run 1 = .ok (.iload_n 1, 1) := by decide +kernel
theorem dL_run_2 : decode bL_run 2 = .ok (.bipush 12, 2) := by decide +kernel
theorem dL_run_4 : decode bL_run 4 = .ok (.invokestatic 29, 3) := by decide +kernel
theorem dL_run_7 : decode bL_run 7 = .ok (.putfield 35, 3) := by decide +kernel
theorem dL_run_10 : decode bL_run 10 = .ok (.aload_n 0, 1) := by decide +kernel
theorem dL_run_11 : decode bL_run 11 = .ok (.iload_n 2, 1) := by decide +kernel
theorem dL_run_12 : decode bL_run 12 = .ok (.putfield 39, 3) := by decide +kernel
theorem dL_run_15 : decode bL_run 15 = .ok (.aload_n 0, 1) := by decide +kernel
theorem dL_run_16 : decode bL_run 16 = .ok (.iconst 0, 1) := by decide +kernel
theorem dL_run_17 : decode bL_run 17 = .ok (.putfield 42, 3) := by decide +kernel
theorem dL_run_20 : decode bL_run 20 = .ok (.aload_n 0, 1) := by decide +kernel
theorem dL_run_21 : decode bL_run 21 = .ok (.iconst 0, 1) := by decide +kernel
theorem dL_run_22 : decode bL_run 22 = .ok (.putfield 45, 3) := by decide +kernel
theorem dL_run_25 : decode bL_run 25 = .ok (.iconst 0, 1) := by decide +kernel
theorem dL_run_26 : decode bL_run 26 = .ok (.istore_n 3, 1) := by decide +kernel
theorem dL_run_27 : decode bL_run 27 = .ok (.iload_n 3, 1) := by decide +kernel
theorem dL_run_28 : decode bL_run 28 = .ok (.aload_n 0, 1) := by decide +kernel
theorem dL_run_29 : decode bL_run 29 = .ok (.getfield 35, 3) := by decide +kernel
theorem dL_run_32 : decode bL_run 32 = .ok (.if_icmp .ge 16, 3) := by decide +kernel
theorem dL_run_35 : decode bL_run 35 = .ok (.aload_n 0, 1) := by decide +kernel
theorem dL_run_36 : decode bL_run 36 = .ok (.getfield 9, 3) := by decide +kernel
theorem dL_run_39 : decode bL_run 39 = .ok (.iload_n 3, 1) := by decide +kernel
theorem dL_run_40 : decode bL_run 40 = .ok (.iconst (-1), 1) := by decide +kernel
theorem dL_run_41 : decode bL_run 41 = .ok (.iastore, 1) := by decide +kernel
theorem dL_run_42 : decode bL_run 42 = .ok (.iinc 3 1, 3) := by decide +kernel
theorem dL_run_45 : decode bL_run 45 = .ok (.goto (-18), 3) := by decide +kernel
theorem dL_run_48 : decode bL_run 48 = .ok (.iconst 0, 1) := by decide +kernel
theorem dL_run_49 : decode bL_run 49 = .ok (.istore_n 3, 1) := by decide +kernel
theorem dL_run_50 : decode bL_run 50 = .ok (.iload_n 3, 1) := by decide +kernel
theorem dL_run_51 : decode bL_run 51 = .ok (.aload_n 0, 1) := by decide +kernel
theorem dL_run_52 : decode bL_run 52 = .ok (.getfield 25, 3) := by decide +kernel
theorem dL_run_55 : decode bL_run 55 = .ok (.getfield 48, 3) := by decide +kernel
theorem dL_run_58 : decode bL_run 58 = .ok (.if_icmp .ge 23, 3) := by decide +kernel
theorem dL_run_61 : decode bL_run 61 = .ok (.aload_n 0, 1) := by decide +kernel
theorem dL_run_62 : decode bL_run 62 = .ok (.getfield 18, 3) := by decide +kernel
theorem dL_run_65 : decode bL_run 65 = .ok (.iload_n 3, 1) := by decide +kernel
theorem dL_run_66 : decode bL_run 66 = .ok (.iconst 0, 1) := by decide +kernel
theorem dL_run_67 : decode bL_run 67 = .ok (.bastore, 1) := by decide +kernel
theorem dL_run_68 : decode bL_run 68 = .ok (.aload_n 0, 1) := by decide +kernel
theorem dL_run_69 : decode bL_run 69 = .ok (.getfield 22, 3) := by decide +kernel
theorem dL_run_72 : decode bL_run 72 = .ok (.iload_n 3, 1) := by decide +kernel
theorem dL_run_73 : decode bL_run 73 = .ok (.iconst 0, 1) := by decide +kernel
theorem dL_run_74 : decode bL_run 74 = .ok (.iastore, 1) := by decide +kernel
theorem dL_run_75 : decode bL_run 75 = .ok (.iinc 3 1, 3) := by decide +kernel
theorem dL_run_78 : decode bL_run 78 = .ok (.goto (-28), 3) := by decide +kernel
theorem dL_run_81 : decode bL_run 81 = .ok (.iconst 1, 1) := by decide +kernel
theorem dL_run_82 : decode bL_run 82 = .ok (.istore_n 3, 1) := by decide +kernel
theorem dL_run_83 : decode bL_run 83 = .ok (.iload_n 3, 1) := by decide +kernel
theorem dL_run_84 : decode bL_run 84 = .ok (.sipush 9999, 3) := by decide +kernel
theorem dL_run_87 : decode bL_run 87 = .ok (.if_icmp .gt 32, 3) := by decide +kernel
theorem dL_run_90 : decode bL_run 90 = .ok (.aload_n 0, 1) := by decide +kernel
theorem dL_run_91 : decode bL_run 91 = .ok (.getfield 42, 3) := by decide +kernel
theorem dL_run_94 : decode bL_run 94 = .ok (.aload_n 0, 1) := by decide +kernel
theorem dL_run_95 : decode bL_run 95 = .ok (.getfield 25, 3) := by decide +kernel
theorem dL_run_98 : decode bL_run 98 = .ok (.getfield 48, 3) := by decide +kernel
theorem dL_run_101 : decode bL_run 101 = .ok (.if_icmp .ge 18, 3) := by decide +kernel
theorem dL_run_104 : decode bL_run 104 = .ok (.aload_n 0, 1) := by decide +kernel
theorem dL_run_105 : decode bL_run 105 = .ok (.iload_n 3, 1) := by decide +kernel
theorem dL_run_106 : decode bL_run 106 = .ok (.invokevirtual 53, 3) := by decide +kernel
theorem dL_run_109 : decode bL_run 109 = .ok (.aload_n 0, 1) := by decide +kernel
theorem dL_run_110 : decode bL_run 110 = .ok (.invokevirtual 57, 3) := by decide +kernel
theorem dL_run_113 : decode bL_run 113 = .ok (.iinc 3 1, 3) := by decide +kernel
theorem dL_run_116 : decode bL_run 116 = .ok (.goto (-33), 3) := by decide +kernel
theorem dL_run_119 : decode bL_run 119 = .ok (.return_, 1) := by decide +kernel
theorem dL_goOn_0 : decode bL_goOn 0 = .ok (.iconst 0, 1) := by decide +kernel
theorem dL_goOn_1 : decode bL_goOn 1 = .ok (.istore_n 2, 1) := by decide +kernel
theorem dL_goOn_2 : decode bL_goOn 2 = .ok (.iload_n 2, 1) := by decide +kernel
theorem dL_goOn_3 : decode bL_goOn 3 = .ok (.aload_n 0, 1) := by decide +kernel
theorem dL_goOn_4 : decode bL_goOn 4 = .ok (.getfield 35, 3) := by decide +kernel
theorem dL_goOn_7 : decode bL_goOn 7 = .ok (.if_icmp .ge 110, 3) := by decide +kernel
theorem dL_goOn_10 : decode bL_goOn 10 = .ok (.aload_n 0, 1) := by decide +kernel
theorem dL_goOn_11 : decode bL_goOn 11 = .ok (.getfield 9, 3) := by decide +kernel
theorem dL_goOn_14 : decode bL_goOn 14 = .ok (.iload_n 2, 1) := by decide +kernel
theorem dL_goOn_15 : decode bL_goOn 15 = .ok (.iaload, 1) := by decide +kernel
theorem dL_goOn_16 : decode bL_goOn 16 = .ok (.istore_n 3, 1) := by decide +kernel
theorem dL_goOn_17 : decode bL_goOn 17 = .ok (.iload_n 3, 1) := by decide +kernel
theorem dL_goOn_18 : decode bL_goOn 18 = .ok (.iconst (-1), 1) := by decide +kernel
theorem dL_goOn_19 : decode bL_goOn 19 = .ok (.if_icmp .ne 6, 3) := by decide +kernel
theorem dL_goOn_22 : decode bL_goOn 22 = .ok (.goto 89, 3) := by decide +kernel
theorem dL_goOn_25 : decode bL_goOn 25 = .ok (.aload_n 0, 1) := by decide +kernel
theorem dL_goOn_26 : decode bL_goOn 26 = .ok (.getfield 15, 3) := by decide +kernel
theorem dL_goOn_29 : decode bL_goOn 29 = .ok (.iload_n 3, 1) := by decide +kernel
theorem dL_goOn_30 : decode bL_goOn 30 = .ok (.iaload, 1) := by decide +kernel
theorem dL_goOn_31 : decode bL_goOn 31 = .ok (.ifCond .le 16, 3) := by decide +kernel
theorem dL_goOn_34 : decode bL_goOn 34 = .ok (.aload_n 0, 1) := by decide +kernel
theorem dL_goOn_35 : decode bL_goOn 35 = .ok (.getfield 15, 3) := by decide +kernel
theorem dL_goOn_38 : decode bL_goOn 38 = .ok (.iload_n 3, 1) := by decide +kernel
theorem dL_goOn_39 : decode bL_goOn 39 = .ok (.dup2, 1) := by decide +kernel
theorem dL_goOn_40 : decode bL_goOn 40 = .ok (.iaload, 1) := by decide +kernel
theorem dL_goOn_41 : decode bL_goOn 41 = .ok (.iconst 1, 1) := by decide +kernel
theorem dL_goOn_42 : decode bL_goOn 42 = .ok (.isub, 1) := by decide +kernel
theorem dL_goOn_43 : decode bL_goOn 43 = .ok (.iastore, 1) := by decide +kernel
theorem dL_goOn_44 : decode bL_goOn 44 = .ok (.goto 67, 3) := by decide +kernel
theorem dL_goOn_47 : decode bL_goOn 47 = .ok (.iload_n 2, 1) := by decide +kernel
theorem dL_goOn_48 : decode bL_goOn 48 = .ok (.ifCond .ne 35, 3) := by decide +kernel
theorem dL_goOn_51 : decode bL_goOn 51 = .ok (.aload_n 0, 1) := by decide +kernel
theorem dL_goOn_52 : decode bL_goOn 52 = .ok (.getfield 9, 3) := by decide +kernel
theorem dL_goOn_55 : decode bL_goOn 55 = .ok (.iload_n 2, 1) := by decide +kernel
theorem dL_goOn_56 : decode bL_goOn 56 = .ok (.iconst (-1), 1) := by decide +kernel
theorem dL_goOn_57 : decode bL_goOn 57 = .ok (.iastore, 1) := by decide +kernel
theorem dL_goOn_58 : decode bL_goOn 58 = .ok (.aload_n 0, 1) := by decide +kernel
theorem dL_goOn_59 : decode bL_goOn 59 = .ok (.getfield 22, 3) := by decide +kernel
theorem dL_goOn_62 : decode bL_goOn 62 = .ok (.iload_n 3, 1) := by decide +kernel
theorem dL_goOn_63 : decode bL_goOn 63 = .ok (.iload_n 1, 1) := by decide +kernel
theorem dL_goOn_64 : decode bL_goOn 64 = .ok (.iastore, 1) := by decide +kernel
theorem dL_goOn_65 : decode bL_goOn 65 = .ok (.aload_n 0, 1) := by decide +kernel
theorem dL_goOn_66 : decode bL_goOn 66 = .ok (.dup, 1) := by decide +kernel
theorem dL_goOn_67 : decode bL_goOn 67 = .ok (.getfield 42, 3) := by decide +kernel
theorem dL_goOn_70 : decode bL_goOn 70 = .ok (.iconst 1, 1) := by decide +kernel
theorem dL_goOn_71 : decode bL_goOn 71 = .ok (.iadd, 1) := by decide +kernel
theorem dL_goOn_72 : decode bL_goOn 72 = .ok (.putfield 42, 3) := by decide +kernel
theorem dL_goOn_75 : decode bL_goOn 75 = .ok (.aload_n 0, 1) := by decide +kernel
theorem dL_goOn_76 : decode bL_goOn 76 = .ok (.iload_n 1, 1) := by decide +kernel
theorem dL_goOn_77 : decode bL_goOn 77 = .ok (.putfield 45, 3) := by decide +kernel
theorem dL_goOn_80 : decode bL_goOn 80 = .ok (.goto 31, 3) := by decide +kernel
theorem dL_goOn_83 : decode bL_goOn 83 = .ok (.aload_n 0, 1) := by decide +kernel
theorem dL_goOn_84 : decode bL_goOn 84 = .ok (.getfield 9, 3) := by decide +kernel
theorem dL_goOn_87 : decode bL_goOn 87 = .ok (.iload_n 2, 1) := by decide +kernel
theorem dL_goOn_88 : decode bL_goOn 88 = .ok (.iconst 1, 1) := by decide +kernel
theorem dL_goOn_89 : decode bL_goOn 89 = .ok (.isub, 1) := by decide +kernel
theorem dL_goOn_90 : decode bL_goOn 90 = .ok (.iaload, 1) := by decide +kernel
theorem dL_goOn_91 : decode bL_goOn 91 = .ok (.iconst (-1), 1) := by decide +kernel
theorem dL_goOn_92 : decode bL_goOn 92 = .ok (.if_icmp .ne 19, 3) := by decide +kernel
theorem dL_goOn_95 : decode bL_goOn 95 = .ok (.aload_n 0, 1) := by decide +kernel
theorem dL_goOn_96 : decode bL_goOn 96 = .ok (.getfield 9, 3) := by decide +kernel
theorem dL_goOn_99 : decode bL_goOn 99 = .ok (.iload_n 2, 1) := by decide +kernel
theorem dL_goOn_100 : decode bL_goOn 100 = .ok (.iconst 1, 1) := by decide +kernel
theorem dL_goOn_101 : decode bL_goOn 101 = .ok (.isub, 1) := by decide +kernel
theorem dL_goOn_102 : decode bL_goOn 102 = .ok (.iload_n 3, 1) := by decide +kernel
theorem dL_goOn_103 : decode bL_goOn 103 = .ok (.iastore, 1) := by decide +kernel
theorem dL_goOn_104 : decode bL_goOn 104 = .ok (.aload_n 0, 1) := by decide +kernel
theorem dL_goOn_105 : decode bL_goOn 105 = .ok (.getfield 9, 3) := by decide +kernel
theorem dL_goOn_108 : decode bL_goOn 108 = .ok (.iload_n 2, 1) := by decide +kernel
theorem dL_goOn_109 : decode bL_goOn 109 = .ok (.iconst (-1), 1) := by decide +kernel
theorem dL_goOn_110 : decode bL_goOn 110 = .ok (.iastore, 1) := by decide +kernel
theorem dL_goOn_111 : decode bL_goOn 111 = .ok (.iinc 2 1, 3) := by decide +kernel
theorem dL_goOn_114 : decode bL_goOn 114 = .ok (.goto (-112), 3) := by decide +kernel
theorem dL_goOn_117 : decode bL_goOn 117 = .ok (.return_, 1) := by decide +kernel
theorem dL_getUp_0 : decode bL_getUp 0 = .ok (.aload_n 0, 1) := by decide +kernel
theorem dL_getUp_1 : decode bL_getUp 1 = .ok (.invokevirtual 60, 3) := by decide +kernel
theorem dL_getUp_4 : decode bL_getUp 4 = .ok (.istore_n 1, 1) := by decide +kernel
theorem dL_getUp_5 : decode bL_getUp 5 = .ok (.iconst 0, 1) := by decide +kernel
theorem dL_getUp_6 : decode bL_getUp 6 = .ok (.istore_n 2, 1) := by decide +kernel
theorem dL_getUp_7 : decode bL_getUp 7 = .ok (.iload_n 2, 1) := by decide +kernel
theorem dL_getUp_8 : decode bL_getUp 8 = .ok (.aload_n 0, 1) := by decide +kernel
theorem dL_getUp_9 : decode bL_getUp 9 = .ok (.getfield 35, 3) := by decide +kernel
theorem dL_getUp_12 : decode bL_getUp 12 = .ok (.if_icmp .ge 66, 3) := by decide +kernel
theorem dL_getUp_15 : decode bL_getUp 15 = .ok (.aload_n 0, 1) := by decide +kernel
theorem dL_getUp_16 : decode bL_getUp 16 = .ok (.getfield 9, 3) := by decide +kernel
theorem dL_getUp_19 : decode bL_getUp 19 = .ok (.iload_n 2, 1) := by decide +kernel
theorem dL_getUp_20 : decode bL_getUp 20 = .ok (.iaload, 1) := by decide +kernel
theorem dL_getUp_21 : decode bL_getUp 21 = .ok (.iconst (-1), 1) := by decide +kernel
theorem dL_getUp_22 : decode bL_getUp 22 = .ok (.if_icmp .ne 12, 3) := by decide +kernel
theorem dL_getUp_25 : decode bL_getUp 25 = .ok (.aload_n 0, 1) := by decide +kernel
theorem dL_getUp_26 : decode bL_getUp 26 = .ok (.iload_n 2, 1) := by decide +kernel
theorem dL_getUp_27 : decode bL_getUp 27 = .ok (.iload_n 1, 1) := by decide +kernel
theorem dL_getUp_28 : decode bL_getUp 28 = .ok (.invokevirtual 64, 3) := by decide +kernel
theorem dL_getUp_31 : decode bL_getUp 31 = .ok (.goto 4, 3) := by decide +kernel
theorem dL_getUp_34 : decode bL_getUp 34 = .ok (.iconst (-1), 1) := by decide +kernel
theorem dL_getUp_35 : decode bL_getUp 35 = .ok (.istore_n 3, 1) := by decide +kernel
theorem dL_getUp_36 : decode bL_getUp 36 = .ok (.iload_n 3, 1) := by decide +kernel
theorem dL_getUp_37 : decode bL_getUp 37 = .ok (.iconst (-1), 1) := by decide +kernel
theorem dL_getUp_38 : decode bL_getUp 38 = .ok (.if_icmp .eq 34, 3) := by decide +kernel
theorem dL_getUp_41 : decode bL_getUp 41 = .ok (.aload_n 0, 1) := by decide +kernel
theorem dL_getUp_42 : decode bL_getUp 42 = .ok (.getfield 9, 3) := by decide +kernel
theorem dL_getUp_45 : decode bL_getUp 45 = .ok (.iload_n 2, 1) := by decide +kernel
theorem dL_getUp_46 : decode bL_getUp 46 = .ok (.iload_n 3, 1) := by decide +kernel
theorem dL_getUp_47 : decode bL_getUp 47 = .ok (.iastore, 1) := by decide +kernel
theorem dL_getUp_48 : decode bL_getUp 48 = .ok (.aload_n 0, 1) := by decide +kernel
theorem dL_getUp_49 : decode bL_getUp 49 = .ok (.getfield 18, 3) := by decide +kernel
theorem dL_getUp_52 : decode bL_getUp 52 = .ok (.iload_n 3, 1) := by decide +kernel
theorem dL_getUp_53 : decode bL_getUp 53 = .ok (.iconst 1, 1) := by decide +kernel
theorem dL_getUp_54 : decode bL_getUp 54 = .ok (.bastore, 1) := by decide +kernel
theorem dL_getUp_55 : decode bL_getUp 55 = .ok (.aload_n 0, 1) := by decide +kernel
theorem dL_getUp_56 : decode bL_getUp 56 = .ok (.getfield 15, 3) := by decide +kernel
theorem dL_getUp_59 : decode bL_getUp 59 = .ok (.iload_n 3, 1) := by decide +kernel
theorem dL_getUp_60 : decode bL_getUp 60 = .ok (.iconst 2, 1) := by decide +kernel
theorem dL_getUp_61 : decode bL_getUp 61 = .ok (.aload_n 0, 1) := by decide +kernel
theorem dL_getUp_62 : decode bL_getUp 62 = .ok (.getfield 25, 3) := by decide +kernel
theorem dL_getUp_65 : decode bL_getUp 65 = .ok (.getfield 67, 3) := by decide +kernel
theorem dL_getUp_68 : decode bL_getUp 68 = .ok (.iload_n 3, 1) := by decide +kernel
theorem dL_getUp_69 : decode bL_getUp 69 = .ok (.iaload, 1) := by decide +kernel
theorem dL_getUp_70 : decode bL_getUp 70 = .ok (.imul, 1) := by decide +kernel
theorem dL_getUp_71 : decode bL_getUp 71 = .ok (.iastore, 1) := by decide +kernel
theorem dL_getUp_72 : decode bL_getUp 72 = .ok (.iinc 2 1, 3) := by decide +kernel
theorem dL_getUp_75 : decode bL_getUp 75 = .ok (.goto (-68), 3) := by decide +kernel
theorem dL_getUp_78 : decode bL_getUp 78 = .ok (.return_, 1) := by decide +kernel
theorem dL_leastTurn_0 : decode bL_leastTurn 0 = .ok (.bipush 12, 2) := by decide +kernel
theorem dL_leastTurn_2 : decode bL_leastTurn 2 = .ok (.istore_n 1, 1) := by decide +kernel
theorem dL_leastTurn_3 : decode bL_leastTurn 3 = .ok (.iconst 0, 1) := by decide +kernel
theorem dL_leastTurn_4 : decode bL_leastTurn 4 = .ok (.istore_n 2, 1) := by decide +kernel
theorem dL_leastTurn_5 : decode bL_leastTurn 5 = .ok (.iload_n 2, 1) := by decide +kernel
theorem dL_leastTurn_6 : decode bL_leastTurn 6 = .ok (.aload_n 0, 1) := by decide +kernel
theorem dL_leastTurn_7 : decode bL_leastTurn 7 = .ok (.getfield 25, 3) := by decide +kernel
theorem dL_leastTurn_10 : decode bL_leastTurn 10 = .ok (.getfield 48, 3) := by decide +kernel
theorem dL_leastTurn_13 : decode bL_leastTurn 13 = .ok (.if_icmp .ge 28, 3) := by decide +kernel
theorem dL_leastTurn_16 : decode bL_leastTurn 16 = .ok (.aload_n 0, 1) := by decide +kernel
theorem dL_leastTurn_17 : decode bL_leastTurn 17 = .ok (.getfield 18, 3) := by decide +kernel
theorem dL_leastTurn_20 : decode bL_leastTurn 20 = .ok (.iload_n 2, 1) := by decide +kernel
theorem dL_leastTurn_21 : decode bL_leastTurn 21 = .ok (.baload, 1) := by decide +kernel
theorem dL_leastTurn_22 : decode bL_leastTurn 22 = .ok (.ifCond .ne 13, 3) := by decide +kernel
theorem dL_leastTurn_25 : decode bL_leastTurn 25 = .ok (.iload_n 1, 1) := by decide +kernel
theorem dL_leastTurn_26 : decode bL_leastTurn 26 = .ok (.aload_n 0, 1) := by decide +kernel
theorem dL_leastTurn_27 : decode bL_leastTurn 27 = .ok (.iload_n 2, 1) := by decide +kernel
theorem dL_leastTurn_28 : decode bL_leastTurn 28 = .ok (.invokevirtual 70, 3) := by decide +kernel
theorem dL_leastTurn_31 : decode bL_leastTurn 31 = .ok (.invokestatic 29, 3) := by decide +kernel
theorem dL_leastTurn_34 : decode bL_leastTurn 34 = .ok (.istore_n 1, 1) := by decide +kernel
theorem dL_leastTurn_35 : decode bL_leastTurn 35 = .ok (.iinc 2 1, 3) := by decide +kernel
theorem dL_leastTurn_38 : decode bL_leastTurn 38 = .ok (.goto (-33), 3) := by decide +kernel
theorem dL_leastTurn_41 : decode bL_leastTurn 41 = .ok (.iload_n 1, 1) := by decide +kernel
theorem dL_leastTurn_42 : decode bL_leastTurn 42 = .ok (.ireturn, 1) := by decide +kernel
theorem dL_turnOf_0 : decode bL_turnOf 0 = .ok (.aload_n 0, 1) := by decide +kernel
theorem dL_turnOf_1 : decode bL_turnOf 1 = .ok (.getfield 39, 3) := by decide +kernel
theorem dL_turnOf_4 : decode bL_turnOf 4 = .ok (.iconst 1, 1) := by decide +kernel
theorem dL_turnOf_5 : decode bL_turnOf 5 = .ok (.if_icmp .ne 13, 3) := by decide +kernel
theorem dL_turnOf_8 : decode bL_turnOf 8 = .ok (.aload_n 0, 1) := by decide +kernel
theorem dL_turnOf_9 : decode bL_turnOf 9 = .ok (.getfield 25, 3) := by decide +kernel
theorem dL_turnOf_12 : decode bL_turnOf 12 = .ok (.getfield 74, 3) := by decide +kernel
theorem dL_turnOf_15 : decode bL_turnOf 15 = .ok (.iload_n 1, 1) := by decide +kernel
theorem dL_turnOf_16 : decode bL_turnOf 16 = .ok (.iaload, 1) := by decide +kernel
theorem dL_turnOf_17 : decode bL_turnOf 17 = .ok (.ireturn, 1) := by decide +kernel
theorem dL_turnOf_18 : decode bL_turnOf 18 = .ok (.aload_n 0, 1) := by decide +kernel
theorem dL_turnOf_19 : decode bL_turnOf 19 = .ok (.getfield 39, 3) := by decide +kernel
theorem dL_turnOf_22 : decode bL_turnOf 22 = .ok (.iconst 2, 1) := by decide +kernel
theorem dL_turnOf_23 : decode bL_turnOf 23 = .ok (.if_icmp .ne 15, 3) := by decide +kernel
theorem dL_turnOf_26 : decode bL_turnOf 26 = .ok (.aload_n 0, 1) := by decide +kernel
theorem dL_turnOf_27 : decode bL_turnOf 27 = .ok (.getfield 25, 3) := by decide +kernel
theorem dL_turnOf_30 : decode bL_turnOf 30 = .ok (.getfield 77, 3) := by decide +kernel
theorem dL_turnOf_33 : decode bL_turnOf 33 = .ok (.iload_n 1, 1) := by decide +kernel
theorem dL_turnOf_34 : decode bL_turnOf 34 = .ok (.iaload, 1) := by decide +kernel
theorem dL_turnOf_35 : decode bL_turnOf 35 = .ok (.goto 4, 3) := by decide +kernel
theorem dL_turnOf_38 : decode bL_turnOf 38 = .ok (.iconst 0, 1) := by decide +kernel
theorem dL_turnOf_39 : decode bL_turnOf 39 = .ok (.ireturn, 1) := by decide +kernel
theorem dL_nextOf_0 : decode bL_nextOf 0 = .ok (.iconst (-1), 1) := by decide +kernel
theorem dL_nextOf_1 : decode bL_nextOf 1 = .ok (.istore_n 3, 1) := by decide +kernel
theorem dL_nextOf_2 : decode bL_nextOf 2 = .ok (.iconst 0, 1) := by decide +kernel
theorem dL_nextOf_3 : decode bL_nextOf 3 = .ok (.istore 4, 2) := by decide +kernel
theorem dL_nextOf_5 : decode bL_nextOf 5 = .ok (.iload 4, 2) := by decide +kernel
theorem dL_nextOf_7 : decode bL_nextOf 7 = .ok (.aload_n 0, 1) := by decide +kernel
theorem dL_nextOf_8 : decode bL_nextOf 8 = .ok (.getfield 25, 3) := by decide +kernel
theorem dL_nextOf_11 : decode bL_nextOf 11 = .ok (.getfield 48, 3) := by decide +kernel
theorem dL_nextOf_14 : decode bL_nextOf 14 = .ok (.if_icmp .ge 61, 3) := by decide +kernel
theorem dL_nextOf_17 : decode bL_nextOf 17 = .ok (.aload_n 0, 1) := by decide +kernel
theorem dL_nextOf_18 : decode bL_nextOf 18 = .ok (.getfield 18, 3) := by decide +kernel
theorem dL_nextOf_21 : decode bL_nextOf 21 = .ok (.iload 4, 2) := by decide +kernel
theorem dL_nextOf_23 : decode bL_nextOf 23 = .ok (.baload, 1) := by decide +kernel
theorem dL_nextOf_24 : decode bL_nextOf 24 = .ok (.ifCond .ne 45, 3) := by decide +kernel
theorem dL_nextOf_27 : decode bL_nextOf 27 = .ok (.aload_n 0, 1) := by decide +kernel
theorem dL_nextOf_28 : decode bL_nextOf 28 = .ok (.getfield 25, 3) := by decide +kernel
theorem dL_nextOf_31 : decode bL_nextOf 31 = .ok (.getfield 77, 3) := by decide +kernel
theorem dL_nextOf_34 : decode bL_nextOf 34 = .ok (.iload 4, 2) := by decide +kernel
theorem dL_nextOf_36 : decode bL_nextOf 36 = .ok (.iaload, 1) := by decide +kernel
theorem dL_nextOf_37 : decode bL_nextOf 37 = .ok (.iload_n 1, 1) := by decide +kernel
theorem dL_nextOf_38 : decode bL_nextOf 38 = .ok (.if_icmp .ne 31, 3) := by decide +kernel
theorem dL_nextOf_41 : decode bL_nextOf 41 = .ok (.aload_n 0, 1) := by decide +kernel
theorem dL_nextOf_42 : decode bL_nextOf 42 = .ok (.iload 4, 2) := by decide +kernel
theorem dL_nextOf_44 : decode bL_nextOf 44 = .ok (.invokevirtual 70, 3) := by decide +kernel
theorem dL_nextOf_47 : decode bL_nextOf 47 = .ok (.iload_n 2, 1) := by decide +kernel
theorem dL_nextOf_48 : decode bL_nextOf 48 = .ok (.if_icmp .ne 21, 3) := by decide +kernel
theorem dL_nextOf_51 : decode bL_nextOf 51 = .ok (.iload_n 3, 1) := by decide +kernel
theorem dL_nextOf_52 : decode bL_nextOf 52 = .ok (.iconst (-1), 1) := by decide +kernel
theorem dL_nextOf_53 : decode bL_nextOf 53 = .ok (.if_icmp .eq 13, 3) := by decide +kernel
theorem dL_nextOf_56 : decode bL_nextOf 56 = .ok (.aload_n 0, 1) := by decide +kernel
theorem dL_nextOf_57 : decode bL_nextOf 57 = .ok (.iload 4, 2) := by decide +kernel
theorem dL_nextOf_59 : decode bL_nextOf 59 = .ok (.iload_n 3, 1) := by decide +kernel
theorem dL_nextOf_60 : decode bL_nextOf 60 = .ok (.invokevirtual 80, 3) := by decide +kernel
theorem dL_nextOf_63 : decode bL_nextOf 63 = .ok (.ifCond .eq 6, 3) := by decide +kernel
theorem dL_nextOf_66 : decode bL_nextOf 66 = .ok (.iload 4, 2) := by decide +kernel
theorem dL_nextOf_68 : decode bL_nextOf 68 = .ok (.istore_n 3, 1) := by decide +kernel
theorem dL_nextOf_69 : decode bL_nextOf 69 = .ok (.iinc 4 1, 3) := by decide +kernel
theorem dL_nextOf_72 : decode bL_nextOf 72 = .ok (.goto (-67), 3) := by decide +kernel
theorem dL_nextOf_75 : decode bL_nextOf 75 = .ok (.iload_n 3, 1) := by decide +kernel
theorem dL_nextOf_76 : decode bL_nextOf 76 = .ok (.ireturn, 1) := by decide +kernel
theorem dL_isNearer_0 : decode bL_isNearer 0 = .ok (.aload_n 0, 1) := by decide +kernel
theorem dL_isNearer_1 : decode bL_isNearer 1 = .ok (.getfield 25, 3) := by decide +kernel
theorem dL_isNearer_4 : decode bL_isNearer 4 = .ok (.getfield 74, 3) := by decide +kernel
theorem dL_isNearer_7 : decode bL_isNearer 7 = .ok (.iload_n 1, 1) := by decide +kernel
theorem dL_isNearer_8 : decode bL_isNearer 8 = .ok (.iaload, 1) := by decide +kernel
theorem dL_isNearer_9 : decode bL_isNearer 9 = .ok (.aload_n 0, 1) := by decide +kernel
theorem dL_isNearer_10 : decode bL_isNearer 10 = .ok (.getfield 25, 3) := by decide +kernel
theorem dL_isNearer_13 : decode bL_isNearer 13 = .ok (.getfield 74, 3) := by decide +kernel
theorem dL_isNearer_16 : decode bL_isNearer 16 = .ok (.iload_n 2, 1) := by decide +kernel
theorem dL_isNearer_17 : decode bL_isNearer 17 = .ok (.iaload, 1) := by decide +kernel
theorem dL_isNearer_18 : decode bL_isNearer 18 = .ok (.if_icmp .eq 30, 3) := by decide +kernel
theorem dL_isNearer_21 : decode bL_isNearer 21 = .ok (.aload_n 0, 1) := by decide +kernel
theorem dL_isNearer_22 : decode bL_isNearer 22 = .ok (.getfield 25, 3) := by decide +kernel
theorem dL_isNearer_25 : decode bL_isNearer 25 = .ok (.getfield 74, 3) := by decide +kernel
theorem dL_isNearer_28 : decode bL_isNearer 28 = .ok (.iload_n 1, 1) := by decide +kernel
theorem dL_isNearer_29 : decode bL_isNearer 29 = .ok (.iaload, 1) := by decide +kernel
theorem dL_isNearer_30 : decode bL_isNearer 30 = .ok (.aload_n 0, 1) := by decide +kernel
theorem dL_isNearer_31 : decode bL_isNearer 31 = .ok (.getfield 25, 3) := by decide +kernel
theorem dL_isNearer_34 : decode bL_isNearer 34 = .ok (.getfield 74, 3) := by decide +kernel
theorem dL_isNearer_37 : decode bL_isNearer 37 = .ok (.iload_n 2, 1) := by decide +kernel
theorem dL_isNearer_38 : decode bL_isNearer 38 = .ok (.iaload, 1) := by decide +kernel
theorem dL_isNearer_39 : decode bL_isNearer 39 = .ok (.if_icmp .ge 7, 3) := by decide +kernel
theorem dL_isNearer_42 : decode bL_isNearer 42 = .ok (.iconst 1, 1) := by decide +kernel
theorem dL_isNearer_43 : decode bL_isNearer 43 = .ok (.goto 4, 3) := by decide +kernel
theorem dL_isNearer_46 : decode bL_isNearer 46 = .ok (.iconst 0, 1) := by decide +kernel
theorem dL_isNearer_47 : decode bL_isNearer 47 = .ok (.ireturn, 1) := by decide +kernel
theorem dL_isNearer_48 : decode bL_isNearer 48 = .ok (.aload_n 0, 1) := by decide +kernel
theorem dL_isNearer_49 : decode bL_isNearer 49 = .ok (.getfield 25, 3) := by decide +kernel
theorem dL_isNearer_52 : decode bL_isNearer 52 = .ok (.getfield 84, 3) := by decide +kernel
theorem dL_isNearer_55 : decode bL_isNearer 55 = .ok (.iload_n 1, 1) := by decide +kernel
theorem dL_isNearer_56 : decode bL_isNearer 56 = .ok (.iaload, 1) := by decide +kernel
theorem dL_isNearer_57 : decode bL_isNearer 57 = .ok (.aload_n 0, 1) := by decide +kernel
theorem dL_isNearer_58 : decode bL_isNearer 58 = .ok (.getfield 25, 3) := by decide +kernel
theorem dL_isNearer_61 : decode bL_isNearer 61 = .ok (.getfield 84, 3) := by decide +kernel
theorem dL_isNearer_64 : decode bL_isNearer 64 = .ok (.iload_n 2, 1) := by decide +kernel
theorem dL_isNearer_65 : decode bL_isNearer 65 = .ok (.iaload, 1) := by decide +kernel
theorem dL_isNearer_66 : decode bL_isNearer 66 = .ok (.if_icmp .ge 7, 3) := by decide +kernel
theorem dL_isNearer_69 : decode bL_isNearer 69 = .ok (.iconst 1, 1) := by decide +kernel
theorem dL_isNearer_70 : decode bL_isNearer 70 = .ok (.goto 4, 3) := by decide +kernel
theorem dL_isNearer_73 : decode bL_isNearer 73 = .ok (.iconst 0, 1) := by decide +kernel
theorem dL_isNearer_74 : decode bL_isNearer 74 = .ok (.ireturn, 1) := by decide +kernel
theorem dN_byNumber_0 : decode bN_byNumber 0 = .ok (.aload_n 0, 1) := by decide +kernel
theorem dN_byNumber_1 : decode bN_byNumber 1 = .ok (.iload_n 1, 1) := by decide +kernel
theorem dN_byNumber_2 : decode bN_byNumber 2 = .ok (.bipush 12, 2) := by decide +kernel
theorem dN_byNumber_4 : decode bN_byNumber 4 = .ok (.invokestatic 15, 3) := by decide +kernel
theorem dN_byNumber_7 : decode bN_byNumber 7 = .ok (.putfield 21, 3) := by decide +kernel
theorem dN_byNumber_10 : decode bN_byNumber 10 = .ok (.iconst 0, 1) := by decide +kernel
theorem dN_byNumber_11 : decode bN_byNumber 11 = .ok (.istore_n 2, 1) := by decide +kernel
theorem dN_byNumber_12 : decode bN_byNumber 12 = .ok (.iload_n 2, 1) := by decide +kernel
theorem dN_byNumber_13 : decode bN_byNumber 13 = .ok (.aload_n 0, 1) := by decide +kernel
theorem dN_byNumber_14 : decode bN_byNumber 14 = .ok (.getfield 21, 3) := by decide +kernel
theorem dN_byNumber_17 : decode bN_byNumber 17 = .ok (.if_icmp .ge 16, 3) := by decide +kernel
theorem dN_byNumber_20 : decode bN_byNumber 20 = .ok (.aload_n 0, 1) := by decide +kernel
theorem dN_byNumber_21 : decode bN_byNumber 21 = .ok (.getfield 9, 3) := by decide +kernel
theorem dN_byNumber_24 : decode bN_byNumber 24 = .ok (.iload_n 2, 1) := by decide +kernel
theorem dN_byNumber_25 : decode bN_byNumber 25 = .ok (.iload_n 2, 1) := by decide +kernel
theorem dN_byNumber_26 : decode bN_byNumber 26 = .ok (.iastore, 1) := by decide +kernel
theorem dN_byNumber_27 : decode bN_byNumber 27 = .ok (.iinc 2 1, 3) := by decide +kernel
theorem dN_byNumber_30 : decode bN_byNumber 30 = .ok (.goto (-18), 3) := by decide +kernel
theorem dN_byNumber_33 : decode bN_byNumber 33 = .ok (.return_, 1) := by decide +kernel
theorem dN_copy_0 : decode bN_copy 0 = .ok (.aload_n 0, 1) := by decide +kernel
theorem dN_copy_1 : decode bN_copy 1 = .ok (.aload_n 1, 1) := by decide +kernel
theorem dN_copy_2 : decode bN_copy 2 = .ok (.getfield 21, 3) := by decide +kernel
theorem dN_copy_5 : decode bN_copy 5 = .ok (.putfield 21, 3) := by decide +kernel
theorem dN_copy_8 : decode bN_copy 8 = .ok (.aload_n 1, 1) := by decide +kernel
theorem dN_copy_9 : decode bN_copy 9 = .ok (.getfield 9, 3) := by decide +kernel
theorem dN_copy_12 : decode bN_copy 12 = .ok (.iconst 0, 1) := by decide +kernel
theorem dN_copy_13 : decode bN_copy 13 = .ok (.aload_n 0, 1) := by decide +kernel
theorem dN_copy_14 : decode bN_copy 14 = .ok (.getfield 9, 3) := by decide +kernel
theorem dN_copy_17 : decode bN_copy 17 = .ok (.iconst 0, 1) := by decide +kernel
theorem dN_copy_18 : decode bN_copy 18 = .ok (.bipush 12, 2) := by decide +kernel
theorem dN_copy_20 : decode bN_copy 20 = .ok (.invokestatic 25, 3) := by decide +kernel
theorem dN_copy_23 : decode bN_copy 23 = .ok (.return_, 1) := by decide +kernel
theorem dN_placeOf_0 : decode bN_placeOf 0 = .ok (.iconst 0, 1) := by decide +kernel
theorem dN_placeOf_1 : decode bN_placeOf 1 = .ok (.istore_n 2, 1) := by decide +kernel
theorem dN_placeOf_2 : decode bN_placeOf 2 = .ok (.iload_n 2, 1) := by decide +kernel
theorem dN_placeOf_3 : decode bN_placeOf 3 = .ok (.aload_n 0, 1) := by decide +kernel
theorem dN_placeOf_4 : decode bN_placeOf 4 = .ok (.getfield 21, 3) := by decide +kernel
theorem dN_placeOf_7 : decode bN_placeOf 7 = .ok (.if_icmp .ge 21, 3) := by decide +kernel
theorem dN_placeOf_10 : decode bN_placeOf 10 = .ok (.aload_n 0, 1) := by decide +kernel
theorem dN_placeOf_11 : decode bN_placeOf 11 = .ok (.getfield 9, 3) := by decide +kernel
theorem dN_placeOf_14 : decode bN_placeOf 14 = .ok (.iload_n 2, 1) := by decide +kernel
theorem dN_placeOf_15 : decode bN_placeOf 15 = .ok (.iaload, 1) := by decide +kernel
theorem dN_placeOf_16 : decode bN_placeOf 16 = .ok (.iload_n 1, 1) := by decide +kernel
theorem dN_placeOf_17 : decode bN_placeOf 17 = .ok (.if_icmp .ne 5, 3) := by decide +kernel
theorem dN_placeOf_20 : decode bN_placeOf 20 = .ok (.iload_n 2, 1) := by decide +kernel
theorem dN_placeOf_21 : decode bN_placeOf 21 = .ok (.ireturn, 1) := by decide +kernel
theorem dN_placeOf_22 : decode bN_placeOf 22 = .ok (.iinc 2 1, 3) := by decide +kernel
theorem dN_placeOf_25 : decode bN_placeOf 25 = .ok (.goto (-23), 3) := by decide +kernel
theorem dN_placeOf_28 : decode bN_placeOf 28 = .ok (.iconst (-1), 1) := by decide +kernel
theorem dN_placeOf_29 : decode bN_placeOf 29 = .ok (.ireturn, 1) := by decide +kernel
theorem dN_takeOut_0 : decode bN_takeOut 0 = .ok (.aload_n 0, 1) := by decide +kernel
theorem dN_takeOut_1 : decode bN_takeOut 1 = .ok (.iload_n 1, 1) := by decide +kernel
theorem dN_takeOut_2 : decode bN_takeOut 2 = .ok (.invokevirtual 31, 3) := by decide +kernel
theorem dN_takeOut_5 : decode bN_takeOut 5 = .ok (.istore_n 2, 1) := by decide +kernel
theorem dN_takeOut_6 : decode bN_takeOut 6 = .ok (.iload_n 2, 1) := by decide +kernel
theorem dN_takeOut_7 : decode bN_takeOut 7 = .ok (.iconst (-1), 1) := by decide +kernel
theorem dN_takeOut_8 : decode bN_takeOut 8 = .ok (.if_icmp .ne 4, 3) := by decide +kernel
theorem dN_takeOut_11 : decode bN_takeOut 11 = .ok (.return_, 1) := by decide +kernel
theorem dN_takeOut_12 : decode bN_takeOut 12 = .ok (.aload_n 0, 1) := by decide +kernel
theorem dN_takeOut_13 : decode bN_takeOut 13 = .ok (.dup, 1) := by decide +kernel
theorem dN_takeOut_14 : decode bN_takeOut 14 = .ok (.getfield 21, 3) := by decide +kernel
theorem dN_takeOut_17 : decode bN_takeOut 17 = .ok (.iconst 1, 1) := by decide +kernel
theorem dN_takeOut_18 : decode bN_takeOut 18 = .ok (.isub, 1) := by decide +kernel
theorem dN_takeOut_19 : decode bN_takeOut 19 = .ok (.putfield 21, 3) := by decide +kernel
theorem dN_takeOut_22 : decode bN_takeOut 22 = .ok (.iload_n 2, 1) := by decide +kernel
theorem dN_takeOut_23 : decode bN_takeOut 23 = .ok (.istore_n 3, 1) := by decide +kernel
theorem dN_takeOut_24 : decode bN_takeOut 24 = .ok (.iload_n 3, 1) := by decide +kernel
theorem dN_takeOut_25 : decode bN_takeOut 25 = .ok (.aload_n 0, 1) := by decide +kernel
theorem dN_takeOut_26 : decode bN_takeOut 26 = .ok (.getfield 21, 3) := by decide +kernel
theorem dN_takeOut_29 : decode bN_takeOut 29 = .ok (.if_icmp .ge 23, 3) := by decide +kernel
theorem dN_takeOut_32 : decode bN_takeOut 32 = .ok (.aload_n 0, 1) := by decide +kernel
theorem dN_takeOut_33 : decode bN_takeOut 33 = .ok (.getfield 9, 3) := by decide +kernel
theorem dN_takeOut_36 : decode bN_takeOut 36 = .ok (.iload_n 3, 1) := by decide +kernel
theorem dN_takeOut_37 : decode bN_takeOut 37 = .ok (.aload_n 0, 1) := by decide +kernel
theorem dN_takeOut_38 : decode bN_takeOut 38 = .ok (.getfield 9, 3) := by decide +kernel
theorem dN_takeOut_41 : decode bN_takeOut 41 = .ok (.iload_n 3, 1) := by decide +kernel
theorem dN_takeOut_42 : decode bN_takeOut 42 = .ok (.iconst 1, 1) := by decide +kernel
theorem dN_takeOut_43 : decode bN_takeOut 43 = .ok (.iadd, 1) := by decide +kernel
theorem dN_takeOut_44 : decode bN_takeOut 44 = .ok (.iaload, 1) := by decide +kernel
theorem dN_takeOut_45 : decode bN_takeOut 45 = .ok (.iastore, 1) := by decide +kernel
theorem dN_takeOut_46 : decode bN_takeOut 46 = .ok (.iinc 3 1, 3) := by decide +kernel
theorem dN_takeOut_49 : decode bN_takeOut 49 = .ok (.goto (-25), 3) := by decide +kernel
theorem dN_takeOut_52 : decode bN_takeOut 52 = .ok (.return_, 1) := by decide +kernel
theorem dN_putIn_0 : decode bN_putIn 0 = .ok (.iload_n 1, 1) := by decide +kernel
theorem dN_putIn_1 : decode bN_putIn 1 = .ok (.ifCond .lt 20, 3) := by decide +kernel
theorem dN_putIn_4 : decode bN_putIn 4 = .ok (.iload_n 1, 1) := by decide +kernel
theorem dN_putIn_5 : decode bN_putIn 5 = .ok (.aload_n 0, 1) := by decide +kernel
theorem dN_putIn_6 : decode bN_putIn 6 = .ok (.getfield 21, 3) := by decide +kernel
theorem dN_putIn_9 : decode bN_putIn 9 = .ok (.if_icmp .gt 12, 3) := by decide +kernel
theorem dN_putIn_12 : decode bN_putIn 12 = .ok (.aload_n 0, 1) := by decide +kernel
theorem dN_putIn_13 : decode bN_putIn 13 = .ok (.getfield 21, 3) := by decide +kernel
theorem dN_putIn_16 : decode bN_putIn 16 = .ok (.bipush 12, 2) := by decide +kernel
theorem dN_putIn_18 : decode bN_putIn 18 = .ok (.if_icmp .lt 4, 3) := by decide +kernel
theorem dN_putIn_21 : decode bN_putIn 21 = .ok (.return_, 1) := by decide +kernel
theorem dN_putIn_22 : decode bN_putIn 22 = .ok (.aload_n 0, 1) := by decide +kernel
theorem dN_putIn_23 : decode bN_putIn 23 = .ok (.getfield 21, 3) := by decide +kernel
theorem dN_putIn_26 : decode bN_putIn 26 = .ok (.istore_n 3, 1) := by decide +kernel
theorem dN_putIn_27 : decode bN_putIn 27 = .ok (.iload_n 3, 1) := by decide +kernel
theorem dN_putIn_28 : decode bN_putIn 28 = .ok (.iload_n 1, 1) := by decide +kernel
theorem dN_putIn_29 : decode bN_putIn 29 = .ok (.if_icmp .le 23, 3) := by decide +kernel
theorem dN_putIn_32 : decode bN_putIn 32 = .ok (.aload_n 0, 1) := by decide +kernel
theorem dN_putIn_33 : decode bN_putIn 33 = .ok (.getfield 9, 3) := by decide +kernel
theorem dN_putIn_36 : decode bN_putIn 36 = .ok (.iload_n 3, 1) := by decide +kernel
theorem dN_putIn_37 : decode bN_putIn 37 = .ok (.aload_n 0, 1) := by decide +kernel
theorem dN_putIn_38 : decode bN_putIn 38 = .ok (.getfield 9, 3) := by decide +kernel
theorem dN_putIn_41 : decode bN_putIn 41 = .ok (.iload_n 3, 1) := by decide +kernel
theorem dN_putIn_42 : decode bN_putIn 42 = .ok (.iconst 1, 1) := by decide +kernel
theorem dN_putIn_43 : decode bN_putIn 43 = .ok (.isub, 1) := by decide +kernel
theorem dN_putIn_44 : decode bN_putIn 44 = .ok (.iaload, 1) := by decide +kernel
theorem dN_putIn_45 : decode bN_putIn 45 = .ok (.iastore, 1) := by decide +kernel
theorem dN_putIn_46 : decode bN_putIn 46 = .ok (.iinc 3 (-1), 3) := by decide +kernel
theorem dN_putIn_49 : decode bN_putIn 49 = .ok (.goto (-22), 3) := by decide +kernel
theorem dN_putIn_52 : decode bN_putIn 52 = .ok (.aload_n 0, 1) := by decide +kernel
theorem dN_putIn_53 : decode bN_putIn 53 = .ok (.getfield 9, 3) := by decide +kernel
theorem dN_putIn_56 : decode bN_putIn 56 = .ok (.iload_n 1, 1) := by decide +kernel
theorem dN_putIn_57 : decode bN_putIn 57 = .ok (.iload_n 2, 1) := by decide +kernel
theorem dN_putIn_58 : decode bN_putIn 58 = .ok (.iastore, 1) := by decide +kernel
theorem dN_putIn_59 : decode bN_putIn 59 = .ok (.aload_n 0, 1) := by decide +kernel
theorem dN_putIn_60 : decode bN_putIn 60 = .ok (.dup, 1) := by decide +kernel
theorem dN_putIn_61 : decode bN_putIn 61 = .ok (.getfield 21, 3) := by decide +kernel
theorem dN_putIn_64 : decode bN_putIn 64 = .ok (.iconst 1, 1) := by decide +kernel
theorem dN_putIn_65 : decode bN_putIn 65 = .ok (.iadd, 1) := by decide +kernel
theorem dN_putIn_66 : decode bN_putIn 66 = .ok (.putfield 21, 3) := by decide +kernel
theorem dN_putIn_69 : decode bN_putIn 69 = .ok (.return_, 1) := by decide +kernel
theorem dN_exchange_0 : decode bN_exchange 0 = .ok (.aload_n 0, 1) := by decide +kernel
theorem dN_exchange_1 : decode bN_exchange 1 = .ok (.getfield 9, 3) := by decide +kernel
theorem dN_exchange_4 : decode bN_exchange 4 = .ok (.iload_n 1, 1) := by decide +kernel
theorem dN_exchange_5 : decode bN_exchange 5 = .ok (.iaload, 1) := by decide +kernel
theorem dN_exchange_6 : decode bN_exchange 6 = .ok (.istore_n 3, 1) := by decide +kernel
theorem dN_exchange_7 : decode bN_exchange 7 = .ok (.aload_n 0, 1) := by decide +kernel
theorem dN_exchange_8 : decode bN_exchange 8 = .ok (.getfield 9, 3) := by decide +kernel
theorem dN_exchange_11 : decode bN_exchange 11 = .ok (.iload_n 1, 1) := by decide +kernel
theorem dN_exchange_12 : decode bN_exchange 12 = .ok (.aload_n 0, 1) := by decide +kernel
theorem dN_exchange_13 : decode bN_exchange 13 = .ok (.getfield 9, 3) := by decide +kernel
theorem dN_exchange_16 : decode bN_exchange 16 = .ok (.iload_n 2, 1) := by decide +kernel
theorem dN_exchange_17 : decode bN_exchange 17 = .ok (.iaload, 1) := by decide +kernel
theorem dN_exchange_18 : decode bN_exchange 18 = .ok (.iastore, 1) := by decide +kernel
theorem dN_exchange_19 : decode bN_exchange 19 = .ok (.aload_n 0, 1) := by decide +kernel
theorem dN_exchange_20 : decode bN_exchange 20 = .ok (.getfield 9, 3) := by decide +kernel
theorem dN_exchange_23 : decode bN_exchange 23 = .ok (.iload_n 2, 1) := by decide +kernel
theorem dN_exchange_24 : decode bN_exchange 24 = .ok (.iload_n 3, 1) := by decide +kernel
theorem dN_exchange_25 : decode bN_exchange 25 = .ok (.iastore, 1) := by decide +kernel
theorem dN_exchange_26 : decode bN_exchange 26 = .ok (.return_, 1) := by decide +kernel
theorem dN_goToNext_0 : decode bN_goToNext 0 = .ok (.aload_n 0, 1) := by decide +kernel
theorem dN_goToNext_1 : decode bN_goToNext 1 = .ok (.getfield 21, 3) := by decide +kernel
theorem dN_goToNext_4 : decode bN_goToNext 4 = .ok (.iconst 2, 1) := by decide +kernel
theorem dN_goToNext_5 : decode bN_goToNext 5 = .ok (.isub, 1) := by decide +kernel
theorem dN_goToNext_6 : decode bN_goToNext 6 = .ok (.istore_n 1, 1) := by decide +kernel
theorem dN_goToNext_7 : decode bN_goToNext 7 = .ok (.iload_n 1, 1) := by decide +kernel
theorem dN_goToNext_8 : decode bN_goToNext 8 = .ok (.ifCond .lt 26, 3) := by decide +kernel
theorem dN_goToNext_11 : decode bN_goToNext 11 = .ok (.aload_n 0, 1) := by decide +kernel
theorem dN_goToNext_12 : decode bN_goToNext 12 = .ok (.getfield 9, 3) := by decide +kernel
theorem dN_goToNext_15 : decode bN_goToNext 15 = .ok (.iload_n 1, 1) := by decide +kernel
theorem dN_goToNext_16 : decode bN_goToNext 16 = .ok (.iaload, 1) := by decide +kernel
theorem dN_goToNext_17 : decode bN_goToNext 17 = .ok (.aload_n 0, 1) := by decide +kernel
theorem dN_goToNext_18 : decode bN_goToNext 18 = .ok (.getfield 9, 3) := by decide +kernel
theorem dN_goToNext_21 : decode bN_goToNext 21 = .ok (.iload_n 1, 1) := by decide +kernel
theorem dN_goToNext_22 : decode bN_goToNext 22 = .ok (.iconst 1, 1) := by decide +kernel
theorem dN_goToNext_23 : decode bN_goToNext 23 = .ok (.iadd, 1) := by decide +kernel
theorem dN_goToNext_24 : decode bN_goToNext 24 = .ok (.iaload, 1) := by decide +kernel
theorem dN_goToNext_25 : decode bN_goToNext 25 = .ok (.if_icmp .le 9, 3) := by decide +kernel
theorem dN_goToNext_28 : decode bN_goToNext 28 = .ok (.iinc 1 (-1), 3) := by decide +kernel
theorem dN_goToNext_31 : decode bN_goToNext 31 = .ok (.goto (-24), 3) := by decide +kernel
theorem dN_goToNext_34 : decode bN_goToNext 34 = .ok (.iload_n 1, 1) := by decide +kernel
theorem dN_goToNext_35 : decode bN_goToNext 35 = .ok (.ifCond .ge 5, 3) := by decide +kernel
theorem dN_goToNext_38 : decode bN_goToNext 38 = .ok (.iconst 0, 1) := by decide +kernel
theorem dN_goToNext_39 : decode bN_goToNext 39 = .ok (.ireturn, 1) := by decide +kernel
theorem dN_goToNext_40 : decode bN_goToNext 40 = .ok (.aload_n 0, 1) := by decide +kernel
theorem dN_goToNext_41 : decode bN_goToNext 41 = .ok (.getfield 21, 3) := by decide +kernel
theorem dN_goToNext_44 : decode bN_goToNext 44 = .ok (.iconst 1, 1) := by decide +kernel
theorem dN_goToNext_45 : decode bN_goToNext 45 = .ok (.isub, 1) := by decide +kernel
theorem dN_goToNext_46 : decode bN_goToNext 46 = .ok (.istore_n 2, 1) := by decide +kernel
theorem dN_goToNext_47 : decode bN_goToNext 47 = .ok (.iload_n 2, 1) := by decide +kernel
theorem dN_goToNext_48 : decode bN_goToNext 48 = .ok (.iload_n 1, 1) := by decide +kernel
theorem dN_goToNext_49 : decode bN_goToNext 49 = .ok (.if_icmp .le 24, 3) := by decide +kernel
theorem dN_goToNext_52 : decode bN_goToNext 52 = .ok (.aload_n 0, 1) := by decide +kernel
theorem dN_goToNext_53 : decode bN_goToNext 53 = .ok (.getfield 9, 3) := by decide +kernel
theorem dN_goToNext_56 : decode bN_goToNext 56 = .ok (.iload_n 2, 1) := by decide +kernel
theorem dN_goToNext_57 : decode bN_goToNext 57 = .ok (.iaload, 1) := by decide +kernel
theorem dN_goToNext_58 : decode bN_goToNext 58 = .ok (.aload_n 0, 1) := by decide +kernel
theorem dN_goToNext_59 : decode bN_goToNext 59 = .ok (.getfield 9, 3) := by decide +kernel
theorem dN_goToNext_62 : decode bN_goToNext 62 = .ok (.iload_n 1, 1) := by decide +kernel
theorem dN_goToNext_63 : decode bN_goToNext 63 = .ok (.iaload, 1) := by decide +kernel
theorem dN_goToNext_64 : decode bN_goToNext 64 = .ok (.if_icmp .ge 9, 3) := by decide +kernel
theorem dN_goToNext_67 : decode bN_goToNext 67 = .ok (.iinc 2 (-1), 3) := by decide +kernel
theorem dN_goToNext_70 : decode bN_goToNext 70 = .ok (.goto (-23), 3) := by decide +kernel
theorem dN_goToNext_73 : decode bN_goToNext 73 = .ok (.aload_n 0, 1) := by decide +kernel
theorem dN_goToNext_74 : decode bN_goToNext 74 = .ok (.iload_n 1, 1) := by decide +kernel
theorem dN_goToNext_75 : decode bN_goToNext 75 = .ok (.iload_n 2, 1) := by decide +kernel
theorem dN_goToNext_76 : decode bN_goToNext 76 = .ok (.invokevirtual 35, 3) := by decide +kernel
theorem dN_goToNext_79 : decode bN_goToNext 79 = .ok (.aload_n 0, 1) := by decide +kernel
theorem dN_goToNext_80 : decode bN_goToNext 80 = .ok (.getfield 21, 3) := by decide +kernel
theorem dN_goToNext_83 : decode bN_goToNext 83 = .ok (.iconst 1, 1) := by decide +kernel
theorem dN_goToNext_84 : decode bN_goToNext 84 = .ok (.isub, 1) := by decide +kernel
theorem dN_goToNext_85 : decode bN_goToNext 85 = .ok (.istore_n 3, 1) := by decide +kernel
theorem dN_goToNext_86 : decode bN_goToNext 86 = .ok (.iload_n 1, 1) := by decide +kernel
theorem dN_goToNext_87 : decode bN_goToNext 87 = .ok (.iconst 1, 1) := by decide +kernel
theorem dN_goToNext_88 : decode bN_goToNext 88 = .ok (.iadd, 1) := by decide +kernel
theorem dN_goToNext_89 : decode bN_goToNext 89 = .ok (.istore 4, 2) := by decide +kernel
theorem dN_goToNext_91 : decode bN_goToNext 91 = .ok (.iload 4, 2) := by decide +kernel
theorem dN_goToNext_93 : decode bN_goToNext 93 = .ok (.iload_n 3, 1) := by decide +kernel
theorem dN_goToNext_94 : decode bN_goToNext 94 = .ok (.if_icmp .ge 19, 3) := by decide +kernel
theorem dN_goToNext_97 : decode bN_goToNext 97 = .ok (.aload_n 0, 1) := by decide +kernel
theorem dN_goToNext_98 : decode bN_goToNext 98 = .ok (.iload 4, 2) := by decide +kernel
theorem dN_goToNext_100 : decode bN_goToNext 100 = .ok (.iload_n 3, 1) := by decide +kernel
theorem dN_goToNext_101 : decode bN_goToNext 101 = .ok (.invokevirtual 35, 3) := by decide +kernel
theorem dN_goToNext_104 : decode bN_goToNext 104 = .ok (.iinc 3 (-1), 3) := by decide +kernel
theorem dN_goToNext_107 : decode bN_goToNext 107 = .ok (.iinc 4 1, 3) := by decide +kernel
theorem dN_goToNext_110 : decode bN_goToNext 110 = .ok (.goto (-19), 3) := by decide +kernel
theorem dN_goToNext_113 : decode bN_goToNext 113 = .ok (.iconst 1, 1) := by decide +kernel
theorem dN_goToNext_114 : decode bN_goToNext 114 = .ok (.ireturn, 1) := by decide +kernel
theorem dN_mix_0 : decode bN_mix 0 = .ok (.iload_n 1, 1) := by decide +kernel
theorem dN_mix_1 : decode bN_mix 1 = .ok (.i2l, 1) := by decide +kernel
theorem dN_mix_2 : decode bN_mix 2 = .ok (.lstore_n 2, 1) := by decide +kernel
theorem dN_mix_3 : decode bN_mix 3 = .ok (.aload_n 0, 1) := by decide +kernel
theorem dN_mix_4 : decode bN_mix 4 = .ok (.getfield 21, 3) := by decide +kernel
theorem dN_mix_7 : decode bN_mix 7 = .ok (.istore 4, 2) := by decide +kernel
theorem dN_mix_9 : decode bN_mix 9 = .ok (.iload 4, 2) := by decide +kernel
theorem dN_mix_11 : decode bN_mix 11 = .ok (.iconst 2, 1) := by decide +kernel
theorem dN_mix_12 : decode bN_mix 12 = .ok (.if_icmp .lt 41, 3) := by decide +kernel
theorem dN_mix_15 : decode bN_mix 15 = .ok (.ldc2_w 39, 3) := by decide +kernel
theorem dN_mix_18 : decode bN_mix 18 = .ok (.lload_n 2, 1) := by decide +kernel
theorem dN_mix_19 : decode bN_mix 19 = .ok (.lmul, 1) := by decide +kernel
theorem dN_mix_20 : decode bN_mix 20 = .ok (.ldc2_w 41, 3) := by decide +kernel
theorem dN_mix_23 : decode bN_mix 23 = .ok (.ladd, 1) := by decide +kernel
theorem dN_mix_24 : decode bN_mix 24 = .ok (.ldc2_w 43, 3) := by decide +kernel
theorem dN_mix_27 : decode bN_mix 27 = .ok (.lrem, 1) := by decide +kernel
theorem dN_mix_28 : decode bN_mix 28 = .ok (.lstore_n 2, 1) := by decide +kernel
theorem dN_mix_29 : decode bN_mix 29 = .ok (.aload_n 0, 1) := by decide +kernel
theorem dN_mix_30 : decode bN_mix 30 = .ok (.iload 4, 2) := by decide +kernel
theorem dN_mix_32 : decode bN_mix 32 = .ok (.iconst 1, 1) := by decide +kernel
theorem dN_mix_33 : decode bN_mix 33 = .ok (.isub, 1) := by decide +kernel
theorem dN_mix_34 : decode bN_mix 34 = .ok (.lload_n 2, 1) := by decide +kernel
theorem dN_mix_35 : decode bN_mix 35 = .ok (.ldc2_w 45, 3) := by decide +kernel
theorem dN_mix_38 : decode bN_mix 38 = .ok (.ldiv, 1) := by decide +kernel
theorem dN_mix_39 : decode bN_mix 39 = .ok (.iload 4, 2) := by decide +kernel
theorem dN_mix_41 : decode bN_mix 41 = .ok (.i2l, 1) := by decide +kernel
theorem dN_mix_42 : decode bN_mix 42 = .ok (.lrem, 1) := by decide +kernel
theorem dN_mix_43 : decode bN_mix 43 = .ok (.l2i, 1) := by decide +kernel
theorem dN_mix_44 : decode bN_mix 44 = .ok (.invokevirtual 35, 3) := by decide +kernel
theorem dN_mix_47 : decode bN_mix 47 = .ok (.iinc 4 (-1), 3) := by decide +kernel
theorem dN_mix_50 : decode bN_mix 50 = .ok (.goto (-41), 3) := by decide +kernel
theorem dN_mix_53 : decode bN_mix 53 = .ok (.lload_n 2, 1) := by decide +kernel
theorem dN_mix_54 : decode bN_mix 54 = .ok (.l2i, 1) := by decide +kernel
theorem dN_mix_55 : decode bN_mix 55 = .ok (.ireturn, 1) := by decide +kernel
theorem dG_lettersIn_0 : decode bG_lettersIn 0 = .ok (.iconst 0, 1) := by decide +kernel
theorem dG_lettersIn_1 : decode bG_lettersIn 1 = .ok (.istore_n 2, 1) := by decide +kernel
theorem dG_lettersIn_2 : decode bG_lettersIn 2 = .ok (.iconst 0, 1) := by decide +kernel
theorem dG_lettersIn_3 : decode bG_lettersIn 3 = .ok (.istore_n 3, 1) := by decide +kernel
theorem dG_lettersIn_4 : decode bG_lettersIn 4 = .ok (.iconst 0, 1) := by decide +kernel
theorem dG_lettersIn_5 : decode bG_lettersIn 5 = .ok (.istore 4, 2) := by decide +kernel
theorem dG_lettersIn_7 : decode bG_lettersIn 7 = .ok (.iload 4, 2) := by decide +kernel
theorem dG_lettersIn_9 : decode bG_lettersIn 9 = .ok (.bipush 8, 2) := by decide +kernel
theorem dG_lettersIn_11 : decode bG_lettersIn 11 = .ok (.if_icmp .ge 48, 3) := by decide +kernel
theorem dG_lettersIn_14 : decode bG_lettersIn 14 = .ok (.lload_n 0, 1) := by decide +kernel
theorem dG_lettersIn_15 : decode bG_lettersIn 15 = .ok (.iload 4, 2) := by decide +kernel
theorem dG_lettersIn_17 : decode bG_lettersIn 17 = .ok (.invokestatic 15, 3) := by decide +kernel
theorem dG_lettersIn_20 : decode bG_lettersIn 20 = .ok (.istore 5, 2) := by decide +kernel
theorem dG_lettersIn_22 : decode bG_lettersIn 22 = .ok (.iload 5, 2) := by decide +kernel
theorem dG_lettersIn_24 : decode bG_lettersIn 24 = .ok (.bipush 126, 2) := by decide +kernel
theorem dG_lettersIn_26 : decode bG_lettersIn 26 = .ok (.if_icmp .gt 12, 3) := by decide +kernel
theorem dG_lettersIn_29 : decode bG_lettersIn 29 = .ok (.iload_n 3, 1) := by decide +kernel
theorem dG_lettersIn_30 : decode bG_lettersIn 30 = .ok (.ifCond .eq 10, 3) := by decide +kernel
theorem dG_lettersIn_33 : decode bG_lettersIn 33 = .ok (.iload 5, 2) := by decide +kernel
theorem dG_lettersIn_35 : decode bG_lettersIn 35 = .ok (.ifCond .eq 5, 3) := by decide +kernel
theorem dG_lettersIn_38 : decode bG_lettersIn 38 = .ok (.iconst (-1), 1) := by decide +kernel
theorem dG_lettersIn_39 : decode bG_lettersIn 39 = .ok (.ireturn, 1) := by decide +kernel
theorem dG_lettersIn_40 : decode bG_lettersIn 40 = .ok (.iload 5, 2) := by decide +kernel
theorem dG_lettersIn_42 : decode bG_lettersIn 42 = .ok (.ifCond .ne 8, 3) := by decide +kernel
theorem dG_lettersIn_45 : decode bG_lettersIn 45 = .ok (.iconst 1, 1) := by decide +kernel
theorem dG_lettersIn_46 : decode bG_lettersIn 46 = .ok (.istore_n 3, 1) := by decide +kernel
theorem dG_lettersIn_47 : decode bG_lettersIn 47 = .ok (.goto 6, 3) := by decide +kernel
theorem dG_lettersIn_50 : decode bG_lettersIn 50 = .ok (.iinc 2 1, 3) := by decide +kernel
theorem dG_lettersIn_53 : decode bG_lettersIn 53 = .ok (.iinc 4 1, 3) := by decide +kernel
theorem dG_lettersIn_56 : decode bG_lettersIn 56 = .ok (.goto (-49), 3) := by decide +kernel
theorem dG_lettersIn_59 : decode bG_lettersIn 59 = .ok (.iload_n 2, 1) := by decide +kernel
theorem dG_lettersIn_60 : decode bG_lettersIn 60 = .ok (.ireturn, 1) := by decide +kernel
theorem dG_codeIn_0 : decode bG_codeIn 0 = .ok (.lload_n 0, 1) := by decide +kernel
theorem dG_codeIn_1 : decode bG_codeIn 1 = .ok (.bipush 8, 2) := by decide +kernel
theorem dG_codeIn_3 : decode bG_codeIn 3 = .ok (.iload_n 2, 1) := by decide +kernel
theorem dG_codeIn_4 : decode bG_codeIn 4 = .ok (.imul, 1) := by decide +kernel
theorem dG_codeIn_5 : decode bG_codeIn 5 = .ok (.lushr, 1) := by decide +kernel
theorem dG_codeIn_6 : decode bG_codeIn 6 = .ok (.ldc2_w 19, 3) := by decide +kernel
theorem dG_codeIn_9 : decode bG_codeIn 9 = .ok (.land, 1) := by decide +kernel
theorem dG_codeIn_10 : decode bG_codeIn 10 = .ok (.l2i, 1) := by decide +kernel
theorem dG_codeIn_11 : decode bG_codeIn 11 = .ok (.ireturn, 1) := by decide +kernel
theorem dG_write_0 : decode bG_write 0 = .ok (.iconst 0, 1) := by decide +kernel
theorem dG_write_1 : decode bG_write 1 = .ok (.istore 4, 2) := by decide +kernel
theorem dG_write_3 : decode bG_write 3 = .ok (.iload 4, 2) := by decide +kernel
theorem dG_write_5 : decode bG_write 5 = .ok (.iload_n 3, 1) := by decide +kernel
theorem dG_write_6 : decode bG_write 6 = .ok (.if_icmp .ge 44, 3) := by decide +kernel
theorem dG_write_9 : decode bG_write 9 = .ok (.aload_n 0, 1) := by decide +kernel
theorem dG_write_10 : decode bG_write 10 = .ok (.getfield 21, 3) := by decide +kernel
theorem dG_write_13 : decode bG_write 13 = .ok (.bipush 16, 2) := by decide +kernel
theorem dG_write_15 : decode bG_write 15 = .ok (.if_icmp .ge 35, 3) := by decide +kernel
theorem dG_write_18 : decode bG_write 18 = .ok (.aload_n 0, 1) := by decide +kernel
theorem dG_write_19 : decode bG_write 19 = .ok (.getfield 9, 3) := by decide +kernel
theorem dG_write_22 : decode bG_write 22 = .ok (.aload_n 0, 1) := by decide +kernel
theorem dG_write_23 : decode bG_write 23 = .ok (.getfield 21, 3) := by decide +kernel
theorem dG_write_26 : decode bG_write 26 = .ok (.lload_n 1, 1) := by decide +kernel
theorem dG_write_27 : decode bG_write 27 = .ok (.iload 4, 2) := by decide +kernel
theorem dG_write_29 : decode bG_write 29 = .ok (.invokestatic 15, 3) := by decide +kernel
theorem dG_write_32 : decode bG_write 32 = .ok (.i2c, 1) := by decide +kernel
theorem dG_write_33 : decode bG_write 33 = .ok (.castore, 1) := by decide +kernel
theorem dG_write_34 : decode bG_write 34 = .ok (.aload_n 0, 1) := by decide +kernel
theorem dG_write_35 : decode bG_write 35 = .ok (.dup, 1) := by decide +kernel
theorem dG_write_36 : decode bG_write 36 = .ok (.getfield 21, 3) := by decide +kernel
theorem dG_write_39 : decode bG_write 39 = .ok (.iconst 1, 1) := by decide +kernel
theorem dG_write_40 : decode bG_write 40 = .ok (.iadd, 1) := by decide +kernel
theorem dG_write_41 : decode bG_write 41 = .ok (.putfield 21, 3) := by decide +kernel
theorem dG_write_44 : decode bG_write 44 = .ok (.iinc 4 1, 3) := by decide +kernel
theorem dG_write_47 : decode bG_write 47 = .ok (.goto (-44), 3) := by decide +kernel
theorem dG_write_50 : decode bG_write 50 = .ok (.return_, 1) := by decide +kernel
theorem dG_firstFault_0 : decode bG_firstFault 0 = .ok (.aload_n 0, 1) := by decide +kernel
theorem dG_firstFault_1 : decode bG_firstFault 1 = .ok (.iconst 0, 1) := by decide +kernel
theorem dG_firstFault_2 : decode bG_firstFault 2 = .ok (.putfield 25, 3) := by decide +kernel
theorem dG_firstFault_5 : decode bG_firstFault 5 = .ok (.iconst 0, 1) := by decide +kernel
theorem dG_firstFault_6 : decode bG_firstFault 6 = .ok (.istore_n 1, 1) := by decide +kernel
theorem dG_firstFault_7 : decode bG_firstFault 7 = .ok (.iconst 0, 1) := by decide +kernel
theorem dG_firstFault_8 : decode bG_firstFault 8 = .ok (.istore_n 2, 1) := by decide +kernel
theorem dG_firstFault_9 : decode bG_firstFault 9 = .ok (.iload_n 2, 1) := by decide +kernel
theorem dG_firstFault_10 : decode bG_firstFault 10 = .ok (.aload_n 0, 1) := by decide +kernel
theorem dG_firstFault_11 : decode bG_firstFault 11 = .ok (.getfield 21, 3) := by decide +kernel
theorem dG_firstFault_14 : decode bG_firstFault 14 = .ok (.if_icmp .ge 44, 3) := by decide +kernel
theorem dG_firstFault_17 : decode bG_firstFault 17 = .ok (.aload_n 0, 1) := by decide +kernel
theorem dG_firstFault_18 : decode bG_firstFault 18 = .ok (.getfield 25, 3) := by decide +kernel
theorem dG_firstFault_21 : decode bG_firstFault 21 = .ok (.ifCond .ne 6, 3) := by decide +kernel
theorem dG_firstFault_24 : decode bG_firstFault 24 = .ok (.iinc 1 1, 3) := by decide +kernel
theorem dG_firstFault_27 : decode bG_firstFault 27 = .ok (.aload_n 0, 1) := by decide +kernel
theorem dG_firstFault_28 : decode bG_firstFault 28 = .ok (.aload_n 0, 1) := by decide +kernel
theorem dG_firstFault_29 : decode bG_firstFault 29 = .ok (.aload_n 0, 1) := by decide +kernel
theorem dG_firstFault_30 : decode bG_firstFault 30 = .ok (.getfield 9, 3) := by decide +kernel
theorem dG_firstFault_33 : decode bG_firstFault 33 = .ok (.iload_n 2, 1) := by decide +kernel
theorem dG_firstFault_34 : decode bG_firstFault 34 = .ok (.caload, 1) := by decide +kernel
theorem dG_firstFault_35 : decode bG_firstFault 35 = .ok (.iload_n 1, 1) := by decide +kernel
theorem dG_firstFault_36 : decode bG_firstFault 36 = .ok (.invokevirtual 28, 3) := by decide +kernel
theorem dG_firstFault_39 : decode bG_firstFault 39 = .ok (.putfield 25, 3) := by decide +kernel
theorem dG_firstFault_42 : decode bG_firstFault 42 = .ok (.aload_n 0, 1) := by decide +kernel
theorem dG_firstFault_43 : decode bG_firstFault 43 = .ok (.getfield 25, 3) := by decide +kernel
theorem dG_firstFault_46 : decode bG_firstFault 46 = .ok (.iconst 3, 1) := by decide +kernel
theorem dG_firstFault_47 : decode bG_firstFault 47 = .ok (.if_icmp .ne 5, 3) := by decide +kernel
theorem dG_firstFault_50 : decode bG_firstFault 50 = .ok (.iload_n 2, 1) := by decide +kernel
theorem dG_firstFault_51 : decode bG_firstFault 51 = .ok (.ireturn, 1) := by decide +kernel
theorem dG_firstFault_52 : decode bG_firstFault 52 = .ok (.iinc 2 1, 3) := by decide +kernel
theorem dG_firstFault_55 : decode bG_firstFault 55 = .ok (.goto (-46), 3) := by decide +kernel
theorem dG_firstFault_58 : decode bG_firstFault 58 = .ok (.aload_n 0, 1) := by decide +kernel
theorem dG_firstFault_59 : decode bG_firstFault 59 = .ok (.getfield 21, 3) := by decide +kernel
theorem dG_firstFault_62 : decode bG_firstFault 62 = .ok (.ireturn, 1) := by decide +kernel
theorem dG_isCall_0 : decode bG_isCall 0 = .ok (.aload_n 0, 1) := by decide +kernel
theorem dG_isCall_1 : decode bG_isCall 1 = .ok (.invokevirtual 32, 3) := by decide +kernel
theorem dG_isCall_4 : decode bG_isCall 4 = .ok (.aload_n 0, 1) := by decide +kernel
theorem dG_isCall_5 : decode bG_isCall 5 = .ok (.getfield 21, 3) := by decide +kernel
theorem dG_isCall_8 : decode bG_isCall 8 = .ok (.if_icmp .ne 15, 3) := by decide +kernel
theorem dG_isCall_11 : decode bG_isCall 11 = .ok (.aload_n 0, 1) := by decide +kernel
theorem dG_isCall_12 : decode bG_isCall 12 = .ok (.getfield 25, 3) := by decide +kernel
theorem dG_isCall_15 : decode bG_isCall 15 = .ok (.iconst 2, 1) := by decide +kernel
theorem dG_isCall_16 : decode bG_isCall 16 = .ok (.if_icmp .ne 7, 3) := by decide +kernel
theorem dG_isCall_19 : decode bG_isCall 19 = .ok (.iconst 1, 1) := by decide +kernel
theorem dG_isCall_20 : decode bG_isCall 20 = .ok (.goto 4, 3) := by decide +kernel
theorem dG_isCall_23 : decode bG_isCall 23 = .ok (.iconst 0, 1) := by decide +kernel
theorem dG_isCall_24 : decode bG_isCall 24 = .ok (.ireturn, 1) := by decide +kernel
theorem dG_dueBehind_0 : decode bG_dueBehind 0 = .ok (.aload_n 0, 1) := by decide +kernel
theorem dG_dueBehind_1 : decode bG_dueBehind 1 = .ok (.getfield 25, 3) := by decide +kernel
theorem dG_dueBehind_4 : decode bG_dueBehind 4 = .ok (.ifCond .ne 8, 3) := by decide +kernel
theorem dG_dueBehind_7 : decode bG_dueBehind 7 = .ok (.iload_n 1, 1) := by decide +kernel
theorem dG_dueBehind_8 : decode bG_dueBehind 8 = .ok (.invokestatic 36, 3) := by decide +kernel
theorem dG_dueBehind_11 : decode bG_dueBehind 11 = .ok (.ireturn, 1) := by decide +kernel
theorem dG_dueBehind_12 : decode bG_dueBehind 12 = .ok (.aload_n 0, 1) := by decide +kernel
theorem dG_dueBehind_13 : decode bG_dueBehind 13 = .ok (.getfield 25, 3) := by decide +kernel
theorem dG_dueBehind_16 : decode bG_dueBehind 16 = .ok (.iconst 1, 1) := by decide +kernel
theorem dG_dueBehind_17 : decode bG_dueBehind 17 = .ok (.if_icmp .ne 21, 3) := by decide +kernel
theorem dG_dueBehind_20 : decode bG_dueBehind 20 = .ok (.iload_n 1, 1) := by decide +kernel
theorem dG_dueBehind_21 : decode bG_dueBehind 21 = .ok (.bipush 49, 2) := by decide +kernel
theorem dG_dueBehind_23 : decode bG_dueBehind 23 = .ok (.if_icmp .lt 13, 3) := by decide +kernel
theorem dG_dueBehind_26 : decode bG_dueBehind 26 = .ok (.iload_n 1, 1) := by decide +kernel
theorem dG_dueBehind_27 : decode bG_dueBehind 27 = .ok (.bipush 57, 2) := by decide +kernel
theorem dG_dueBehind_29 : decode bG_dueBehind 29 = .ok (.if_icmp .gt 7, 3) := by decide +kernel
theorem dG_dueBehind_32 : decode bG_dueBehind 32 = .ok (.iconst 2, 1) := by decide +kernel
theorem dG_dueBehind_33 : decode bG_dueBehind 33 = .ok (.goto 4, 3) := by decide +kernel
theorem dG_dueBehind_36 : decode bG_dueBehind 36 = .ok (.iconst 3, 1) := by decide +kernel
theorem dG_dueBehind_37 : decode bG_dueBehind 37 = .ok (.ireturn, 1) := by decide +kernel
theorem dG_dueBehind_38 : decode bG_dueBehind 38 = .ok (.iload_n 1, 1) := by decide +kernel
theorem dG_dueBehind_39 : decode bG_dueBehind 39 = .ok (.bipush 44, 2) := by decide +kernel
theorem dG_dueBehind_41 : decode bG_dueBehind 41 = .ok (.if_icmp .ne 12, 3) := by decide +kernel
theorem dG_dueBehind_44 : decode bG_dueBehind 44 = .ok (.iload_n 2, 1) := by decide +kernel
theorem dG_dueBehind_45 : decode bG_dueBehind 45 = .ok (.iconst 4, 1) := by decide +kernel
theorem dG_dueBehind_46 : decode bG_dueBehind 46 = .ok (.if_icmp .ge 7, 3) := by decide +kernel
theorem dG_dueBehind_49 : decode bG_dueBehind 49 = .ok (.iconst 0, 1) := by decide +kernel
theorem dG_dueBehind_50 : decode bG_dueBehind 50 = .ok (.goto 4, 3) := by decide +kernel
theorem dG_dueBehind_53 : decode bG_dueBehind 53 = .ok (.iconst 3, 1) := by decide +kernel
theorem dG_dueBehind_54 : decode bG_dueBehind 54 = .ok (.ireturn, 1) := by decide +kernel
theorem dG_dueBehindKey_0 : decode bG_dueBehindKey 0 = .ok (.iload_n 0, 1) := by decide +kernel
theorem dG_dueBehindKey_1 : decode bG_dueBehindKey 1 = .ok (.tableswitch 111 97 119 #[109, 107, 111, 111, 111, 107, 109, 111, 111, 111, 111, 111, 111, 111, 109, 111, 111, 111, 109, 111, 111, 111, 109], 107) := by decide +kernel
theorem dG_dueBehindKey_108 : decode bG_dueBehindKey 108 = .ok (.iconst 1, 1) := by decide +kernel
theorem dG_dueBehindKey_109 : decode bG_dueBehindKey 109 = .ok (.ireturn, 1) := by decide +kernel
theorem dG_dueBehindKey_110 : decode bG_dueBehindKey 110 = .ok (.iconst 2, 1) := by decide +kernel
theorem dG_dueBehindKey_111 : decode bG_dueBehindKey 111 = .ok (.ireturn, 1) := by decide +kernel
theorem dG_dueBehindKey_112 : decode bG_dueBehindKey 112 = .ok (.iconst 3, 1) := by decide +kernel
theorem dG_dueBehindKey_113 : decode bG_dueBehindKey 113 = .ok (.ireturn, 1) := by decide +kernel
theorem dE_has_0 : decode bE_has 0 = .ok (.iload_n 1, 1) := by decide +kernel
theorem dE_has_1 : decode bE_has 1 = .ok (.ifCond .lt 15, 3) := by decide +kernel
theorem dE_has_4 : decode bE_has 4 = .ok (.iload_n 1, 1) := by decide +kernel
theorem dE_has_5 : decode bE_has 5 = .ok (.aload_n 0, 1) := by decide +kernel
theorem dE_has_6 : decode bE_has 6 = .ok (.getfield 33, 3) := by decide +kernel
theorem dE_has_9 : decode bE_has 9 = .ok (.if_icmp .ge 7, 3) := by decide +kernel
theorem dE_has_12 : decode bE_has 12 = .ok (.iconst 1, 1) := by decide +kernel
theorem dE_has_13 : decode bE_has 13 = .ok (.goto 4, 3) := by decide +kernel
theorem dE_has_16 : decode bE_has 16 = .ok (.iconst 0, 1) := by decide +kernel
theorem dE_has_17 : decode bE_has 17 = .ok (.ireturn, 1) := by decide +kernel
theorem dE_haveSeat_0 : decode bE_haveSeat 0 = .ok (.iconst 0, 1) := by decide +kernel
theorem dE_haveSeat_1 : decode bE_haveSeat 1 = .ok (.istore 4, 2) := by decide +kernel
theorem dE_haveSeat_3 : decode bE_haveSeat 3 = .ok (.iload 4, 2) := by decide +kernel
theorem dE_haveSeat_5 : decode bE_haveSeat 5 = .ok (.aload_n 0, 1) := by decide +kernel
theorem dE_haveSeat_6 : decode bE_haveSeat 6 = .ok (.getfield 33, 3) := by decide +kernel
theorem dE_haveSeat_9 : decode bE_haveSeat 9 = .ok (.if_icmp .ge 44, 3) := by decide +kernel
theorem dE_haveSeat_12 : decode bE_haveSeat 12 = .ok (.aload_n 0, 1) := by decide +kernel
theorem dE_haveSeat_13 : decode bE_haveSeat 13 = .ok (.getfield 18, 3) := by decide +kernel
theorem dE_haveSeat_16 : decode bE_haveSeat 16 = .ok (.iload 4, 2) := by decide +kernel
theorem dE_haveSeat_18 : decode bE_haveSeat 18 = .ok (.iaload, 1) := by decide +kernel
theorem dE_haveSeat_19 : decode bE_haveSeat 19 = .ok (.iload_n 1, 1) := by decide +kernel
theorem dE_haveSeat_20 : decode bE_haveSeat 20 = .ok (.if_icmp .ne 27, 3) := by decide +kernel
theorem dE_haveSeat_23 : decode bE_haveSeat 23 = .ok (.aload_n 0, 1) := by decide +kernel
theorem dE_haveSeat_24 : decode bE_haveSeat 24 = .ok (.getfield 21, 3) := by decide +kernel
theorem dE_haveSeat_27 : decode bE_haveSeat 27 = .ok (.iload 4, 2) := by decide +kernel
theorem dE_haveSeat_29 : decode bE_haveSeat 29 = .ok (.iaload, 1) := by decide +kernel
theorem dE_haveSeat_30 : decode bE_haveSeat 30 = .ok (.iload_n 2, 1) := by decide +kernel
theorem dE_haveSeat_31 : decode bE_haveSeat 31 = .ok (.if_icmp .ne 16, 3) := by decide +kernel
theorem dE_haveSeat_34 : decode bE_haveSeat 34 = .ok (.aload_n 0, 1) := by decide +kernel
theorem dE_haveSeat_35 : decode bE_haveSeat 35 = .ok (.getfield 24, 3) := by decide +kernel
theorem dE_haveSeat_38 : decode bE_haveSeat 38 = .ok (.iload 4, 2) := by decide +kernel
theorem dE_haveSeat_40 : decode bE_haveSeat 40 = .ok (.iaload, 1) := by decide +kernel
theorem dE_haveSeat_41 : decode bE_haveSeat 41 = .ok (.iload_n 3, 1) := by decide +kernel
theorem dE_haveSeat_42 : decode bE_haveSeat 42 = .ok (.if_icmp .ne 5, 3) := by decide +kernel
theorem dE_haveSeat_45 : decode bE_haveSeat 45 = .ok (.iconst 1, 1) := by decide +kernel
theorem dE_haveSeat_46 : decode bE_haveSeat 46 = .ok (.ireturn, 1) := by decide +kernel
theorem dE_haveSeat_47 : decode bE_haveSeat 47 = .ok (.iinc 4 1, 3) := by decide +kernel
theorem dE_haveSeat_50 : decode bE_haveSeat 50 = .ok (.goto (-47), 3) := by decide +kernel
theorem dE_haveSeat_53 : decode bE_haveSeat 53 = .ok (.iconst 0, 1) := by decide +kernel
theorem dE_haveSeat_54 : decode bE_haveSeat 54 = .ok (.ireturn, 1) := by decide +kernel
theorem dE_isA_0 : decode bE_isA 0 = .ok (.iload_n 2, 1) := by decide +kernel
theorem dE_isA_1 : decode bE_isA 1 = .ok (.ifCond .eq 28, 3) := by decide +kernel
theorem dE_isA_4 : decode bE_isA 4 = .ok (.aload_n 0, 1) := by decide +kernel
theorem dE_isA_5 : decode bE_isA 5 = .ok (.getfield 9, 3) := by decide +kernel
theorem dE_isA_8 : decode bE_isA 8 = .ok (.iload_n 1, 1) := by decide +kernel
theorem dE_isA_9 : decode bE_isA 9 = .ok (.iaload, 1) := by decide +kernel
theorem dE_isA_10 : decode bE_isA 10 = .ok (.iload_n 2, 1) := by decide +kernel
theorem dE_isA_11 : decode bE_isA 11 = .ok (.if_icmp .eq 18, 3) := by decide +kernel
theorem dE_isA_14 : decode bE_isA 14 = .ok (.aload_n 0, 1) := by decide +kernel
theorem dE_isA_15 : decode bE_isA 15 = .ok (.getfield 9, 3) := by decide +kernel
theorem dE_isA_18 : decode bE_isA 18 = .ok (.iload_n 1, 1) := by decide +kernel
theorem dE_isA_19 : decode bE_isA 19 = .ok (.iaload, 1) := by decide +kernel
theorem dE_isA_20 : decode bE_isA 20 = .ok (.iconst 3, 1) := by decide +kernel
theorem dE_isA_21 : decode bE_isA 21 = .ok (.if_icmp .ne 12, 3) := by decide +kernel
theorem dE_isA_24 : decode bE_isA 24 = .ok (.iload_n 2, 1) := by decide +kernel
theorem dE_isA_25 : decode bE_isA 25 = .ok (.iconst 2, 1) := by decide +kernel
theorem dE_isA_26 : decode bE_isA 26 = .ok (.if_icmp .ne 7, 3) := by decide +kernel
theorem dE_isA_29 : decode bE_isA 29 = .ok (.iconst 1, 1) := by decide +kernel
theorem dE_isA_30 : decode bE_isA 30 = .ok (.goto 4, 3) := by decide +kernel
theorem dE_isA_33 : decode bE_isA 33 = .ok (.iconst 0, 1) := by decide +kernel
theorem dE_isA_34 : decode bE_isA 34 = .ok (.ireturn, 1) := by decide +kernel
theorem dE_tell_0 : decode bE_tell 0 = .ok (.iload_n 2, 1) := by decide +kernel
theorem dE_tell_1 : decode bE_tell 1 = .ok (.tableswitch 81 0 5 #[39, 46, 53, 60, 67, 74], 39) := by decide +kernel
theorem dE_tell_40 : decode bE_tell 40 = .ok (.aload_n 0, 1) := by decide +kernel
theorem dE_tell_41 : decode bE_tell 41 = .ok (.getfield 9, 3) := by decide +kernel
theorem dE_tell_44 : decode bE_tell 44 = .ok (.iload_n 1, 1) := by decide +kernel
theorem dE_tell_45 : decode bE_tell 45 = .ok (.iaload, 1) := by decide +kernel
theorem dE_tell_46 : decode bE_tell 46 = .ok (.ireturn, 1) := by decide +kernel
theorem dE_tell_47 : decode bE_tell 47 = .ok (.aload_n 0, 1) := by decide +kernel
theorem dE_tell_48 : decode bE_tell 48 = .ok (.getfield 15, 3) := by decide +kernel
theorem dE_tell_51 : decode bE_tell 51 = .ok (.iload_n 1, 1) := by decide +kernel
theorem dE_tell_52 : decode bE_tell 52 = .ok (.iaload, 1) := by decide +kernel
theorem dE_tell_53 : decode bE_tell 53 = .ok (.ireturn, 1) := by decide +kernel
theorem dE_tell_54 : decode bE_tell 54 = .ok (.aload_n 0, 1) := by decide +kernel
theorem dE_tell_55 : decode bE_tell 55 = .ok (.getfield 18, 3) := by decide +kernel
theorem dE_tell_58 : decode bE_tell 58 = .ok (.iload_n 1, 1) := by decide +kernel
theorem dE_tell_59 : decode bE_tell 59 = .ok (.iaload, 1) := by decide +kernel
theorem dE_tell_60 : decode bE_tell 60 = .ok (.ireturn, 1) := by decide +kernel
theorem dE_tell_61 : decode bE_tell 61 = .ok (.aload_n 0, 1) := by decide +kernel
theorem dE_tell_62 : decode bE_tell 62 = .ok (.getfield 21, 3) := by decide +kernel
theorem dE_tell_65 : decode bE_tell 65 = .ok (.iload_n 1, 1) := by decide +kernel
theorem dE_tell_66 : decode bE_tell 66 = .ok (.iaload, 1) := by decide +kernel
theorem dE_tell_67 : decode bE_tell 67 = .ok (.ireturn, 1) := by decide +kernel
theorem dE_tell_68 : decode bE_tell 68 = .ok (.aload_n 0, 1) := by decide +kernel
theorem dE_tell_69 : decode bE_tell 69 = .ok (.getfield 24, 3) := by decide +kernel
theorem dE_tell_72 : decode bE_tell 72 = .ok (.iload_n 1, 1) := by decide +kernel
theorem dE_tell_73 : decode bE_tell 73 = .ok (.iaload, 1) := by decide +kernel
theorem dE_tell_74 : decode bE_tell 74 = .ok (.ireturn, 1) := by decide +kernel
theorem dE_tell_75 : decode bE_tell 75 = .ok (.aload_n 0, 1) := by decide +kernel
theorem dE_tell_76 : decode bE_tell 76 = .ok (.getfield 27, 3) := by decide +kernel
theorem dE_tell_79 : decode bE_tell 79 = .ok (.iload_n 1, 1) := by decide +kernel
theorem dE_tell_80 : decode bE_tell 80 = .ok (.iaload, 1) := by decide +kernel
theorem dE_tell_81 : decode bE_tell 81 = .ok (.ireturn, 1) := by decide +kernel
theorem dE_tell_82 : decode bE_tell 82 = .ok (.aload_n 0, 1) := by decide +kernel
theorem dE_tell_83 : decode bE_tell 83 = .ok (.getfield 30, 3) := by decide +kernel
theorem dE_tell_86 : decode bE_tell 86 = .ok (.iload_n 1, 1) := by decide +kernel
theorem dE_tell_87 : decode bE_tell 87 = .ok (.iaload, 1) := by decide +kernel
theorem dE_tell_88 : decode bE_tell 88 = .ok (.ireturn, 1) := by decide +kernel
theorem dE_thatStayFor_0 : decode bE_thatStayFor 0 = .ok (.iconst 0, 1) := by decide +kernel
theorem dE_thatStayFor_1 : decode bE_thatStayFor 1 = .ok (.istore_n 2, 1) := by decide +kernel
theorem dE_thatStayFor_2 : decode bE_thatStayFor 2 = .ok (.iconst 0, 1) := by decide +kernel
theorem dE_thatStayFor_3 : decode bE_thatStayFor 3 = .ok (.istore_n 3, 1) := by decide +kernel
theorem dE_thatStayFor_4 : decode bE_thatStayFor 4 = .ok (.iload_n 3, 1) := by decide +kernel
theorem dE_thatStayFor_5 : decode bE_thatStayFor 5 = .ok (.aload_n 0, 1) := by decide +kernel
theorem dE_thatStayFor_6 : decode bE_thatStayFor 6 = .ok (.getfield 33, 3) := by decide +kernel
theorem dE_thatStayFor_9 : decode bE_thatStayFor 9 = .ok (.if_icmp .ge 22, 3) := by decide +kernel
theorem dE_thatStayFor_12 : decode bE_thatStayFor 12 = .ok (.aload_n 0, 1) := by decide +kernel
theorem dE_thatStayFor_13 : decode bE_thatStayFor 13 = .ok (.getfield 30, 3) := by decide +kernel
theorem dE_thatStayFor_16 : decode bE_thatStayFor 16 = .ok (.iload_n 3, 1) := by decide +kernel
theorem dE_thatStayFor_17 : decode bE_thatStayFor 17 = .ok (.iaload, 1) := by decide +kernel
theorem dE_thatStayFor_18 : decode bE_thatStayFor 18 = .ok (.iload_n 1, 1) := by decide +kernel
theorem dE_thatStayFor_19 : decode bE_thatStayFor 19 = .ok (.if_icmp .gt 6, 3) := by decide +kernel
theorem dE_thatStayFor_22 : decode bE_thatStayFor 22 = .ok (.iinc 2 1, 3) := by decide +kernel
theorem dE_thatStayFor_25 : decode bE_thatStayFor 25 = .ok (.iinc 3 1, 3) := by decide +kernel
theorem dE_thatStayFor_28 : decode bE_thatStayFor 28 = .ok (.goto (-24), 3) := by decide +kernel
theorem dE_thatStayFor_31 : decode bE_thatStayFor 31 = .ok (.iload_n 2, 1) := by decide +kernel
theorem dE_thatStayFor_32 : decode bE_thatStayFor 32 = .ok (.ireturn, 1) := by decide +kernel
theorem dE_bagsOfAll_0 : decode bE_bagsOfAll 0 = .ok (.iconst 0, 1) := by decide +kernel
theorem dE_bagsOfAll_1 : decode bE_bagsOfAll 1 = .ok (.istore_n 1, 1) := by decide +kernel
theorem dE_bagsOfAll_2 : decode bE_bagsOfAll 2 = .ok (.iconst 0, 1) := by decide +kernel
theorem dE_bagsOfAll_3 : decode bE_bagsOfAll 3 = .ok (.istore_n 2, 1) := by decide +kernel
theorem dE_bagsOfAll_4 : decode bE_bagsOfAll 4 = .ok (.iload_n 2, 1) := by decide +kernel
theorem dE_bagsOfAll_5 : decode bE_bagsOfAll 5 = .ok (.aload_n 0, 1) := by decide +kernel
theorem dE_bagsOfAll_6 : decode bE_bagsOfAll 6 = .ok (.getfield 33, 3) := by decide +kernel
theorem dE_bagsOfAll_9 : decode bE_bagsOfAll 9 = .ok (.if_icmp .ge 18, 3) := by decide +kernel
theorem dE_bagsOfAll_12 : decode bE_bagsOfAll 12 = .ok (.iload_n 1, 1) := by decide +kernel
theorem dE_bagsOfAll_13 : decode bE_bagsOfAll 13 = .ok (.aload_n 0, 1) := by decide +kernel
theorem dE_bagsOfAll_14 : decode bE_bagsOfAll 14 = .ok (.getfield 27, 3) := by decide +kernel
theorem dE_bagsOfAll_17 : decode bE_bagsOfAll 17 = .ok (.iload_n 2, 1) := by decide +kernel
theorem dE_bagsOfAll_18 : decode bE_bagsOfAll 18 = .ok (.iaload, 1) := by decide +kernel
theorem dE_bagsOfAll_19 : decode bE_bagsOfAll 19 = .ok (.iadd, 1) := by decide +kernel
theorem dE_bagsOfAll_20 : decode bE_bagsOfAll 20 = .ok (.istore_n 1, 1) := by decide +kernel
theorem dE_bagsOfAll_21 : decode bE_bagsOfAll 21 = .ok (.iinc 2 1, 3) := by decide +kernel
theorem dE_bagsOfAll_24 : decode bE_bagsOfAll 24 = .ok (.goto (-20), 3) := by decide +kernel
theorem dE_bagsOfAll_27 : decode bE_bagsOfAll 27 = .ok (.iload_n 1, 1) := by decide +kernel
theorem dE_bagsOfAll_28 : decode bE_bagsOfAll 28 = .ok (.ireturn, 1) := by decide +kernel
theorem dX_cabin_0 : decode bX_cabin 0 = .ok (.iload_n 1, 1) := by decide +kernel
theorem dX_cabin_1 : decode bX_cabin 1 = .ok (.iconst 2, 1) := by decide +kernel
theorem dX_cabin_2 : decode bX_cabin 2 = .ok (.bipush 12, 2) := by decide +kernel
theorem dX_cabin_4 : decode bX_cabin 4 = .ok (.invokestatic 70, 3) := by decide +kernel
theorem dX_cabin_7 : decode bX_cabin 7 = .ok (.ifCond .ne 22, 3) := by decide +kernel
theorem dX_cabin_10 : decode bX_cabin 10 = .ok (.iload_n 2, 1) := by decide +kernel
theorem dX_cabin_11 : decode bX_cabin 11 = .ok (.iconst 1, 1) := by decide +kernel
theorem dX_cabin_12 : decode bX_cabin 12 = .ok (.iconst 3, 1) := by decide +kernel
theorem dX_cabin_13 : decode bX_cabin 13 = .ok (.invokestatic 70, 3) := by decide +kernel
theorem dX_cabin_16 : decode bX_cabin 16 = .ok (.ifCond .ne 13, 3) := by decide +kernel
theorem dX_cabin_19 : decode bX_cabin 19 = .ok (.iload_n 3, 1) := by decide +kernel
theorem dX_cabin_20 : decode bX_cabin 20 = .ok (.iconst 0, 1) := by decide +kernel
theorem dX_cabin_21 : decode bX_cabin 21 = .ok (.bipush 6, 2) := by decide +kernel
theorem dX_cabin_23 : decode bX_cabin 23 = .ok (.invokestatic 70, 3) := by decide +kernel
theorem dX_cabin_26 : decode bX_cabin 26 = .ok (.ifCond .eq 6, 3) := by decide +kernel
theorem dX_cabin_29 : decode bX_cabin 29 = .ok (.bipush (-102), 2) := by decide +kernel
theorem dX_cabin_31 : decode bX_cabin 31 = .ok (.ireturn, 1) := by decide +kernel
theorem dX_cabin_32 : decode bX_cabin 32 = .ok (.aload_n 0, 1) := by decide +kernel
theorem dX_cabin_33 : decode bX_cabin 33 = .ok (.getfield 10, 3) := by decide +kernel
theorem dX_cabin_36 : decode bX_cabin 36 = .ok (.iload_n 1, 1) := by decide +kernel
theorem dX_cabin_37 : decode bX_cabin 37 = .ok (.iload_n 2, 1) := by decide +kernel
theorem dX_cabin_38 : decode bX_cabin 38 = .ok (.iload_n 3, 1) := by decide +kernel
theorem dX_cabin_39 : decode bX_cabin 39 = .ok (.invokevirtual 74, 3) := by decide +kernel
theorem dX_cabin_42 : decode bX_cabin 42 = .ok (.aload_n 0, 1) := by decide +kernel
theorem dX_cabin_43 : decode bX_cabin 43 = .ok (.getfield 19, 3) := by decide +kernel
theorem dX_cabin_46 : decode bX_cabin 46 = .ok (.iconst 0, 1) := by decide +kernel
theorem dX_cabin_47 : decode bX_cabin 47 = .ok (.putfield 78, 3) := by decide +kernel
theorem dX_cabin_50 : decode bX_cabin 50 = .ok (.aload_n 0, 1) := by decide +kernel
theorem dX_cabin_51 : decode bX_cabin 51 = .ok (.getfield 26, 3) := by decide +kernel
theorem dX_cabin_54 : decode bX_cabin 54 = .ok (.iconst 0, 1) := by decide +kernel
theorem dX_cabin_55 : decode bX_cabin 55 = .ok (.putfield 82, 3) := by decide +kernel
theorem dX_cabin_58 : decode bX_cabin 58 = .ok (.aload_n 0, 1) := by decide +kernel
theorem dX_cabin_59 : decode bX_cabin 59 = .ok (.getfield 10, 3) := by decide +kernel
theorem dX_cabin_62 : decode bX_cabin 62 = .ok (.invokevirtual 86, 3) := by decide +kernel
theorem dX_cabin_65 : decode bX_cabin 65 = .ok (.ireturn, 1) := by decide +kernel
theorem dX_person_0 : decode bX_person 0 = .ok (.aload_n 0, 1) := by decide +kernel
theorem dX_person_1 : decode bX_person 1 = .ok (.getfield 10, 3) := by decide +kernel
theorem dX_person_4 : decode bX_person 4 = .ok (.invokevirtual 90, 3) := by decide +kernel
theorem dX_person_7 : decode bX_person 7 = .ok (.ifCond .eq 6, 3) := by decide +kernel
theorem dX_person_10 : decode bX_person 10 = .ok (.bipush (-103), 2) := by decide +kernel
theorem dX_person_12 : decode bX_person 12 = .ok (.ireturn, 1) := by decide +kernel
theorem dX_person_13 : decode bX_person 13 = .ok (.iload_n 1, 1) := by decide +kernel
theorem dX_person_14 : decode bX_person 14 = .ok (.iconst 0, 1) := by decide +kernel
theorem dX_person_15 : decode bX_person 15 = .ok (.iconst 3, 1) := by decide +kernel
theorem dX_person_16 : decode bX_person 16 = .ok (.invokestatic 70, 3) := by decide +kernel
theorem dX_person_19 : decode bX_person 19 = .ok (.ifCond .eq 6, 3) := by decide +kernel
theorem dX_person_22 : decode bX_person 22 = .ok (.bipush (-102), 2) := by decide +kernel
theorem dX_person_24 : decode bX_person 24 = .ok (.ireturn, 1) := by decide +kernel
theorem dX_person_25 : decode bX_person 25 = .ok (.iload_n 1, 1) := by decide +kernel
theorem dX_person_26 : decode bX_person 26 = .ok (.iconst 3, 1) := by decide +kernel
theorem dX_person_27 : decode bX_person 27 = .ok (.if_icmp .ne 17, 3) := by decide +kernel
theorem dX_person_30 : decode bX_person 30 = .ok (.aload_n 0, 1) := by decide +kernel
theorem dX_person_31 : decode bX_person 31 = .ok (.getfield 19, 3) := by decide +kernel
theorem dX_person_34 : decode bX_person 34 = .ok (.iload_n 2, 1) := by decide +kernel
theorem dX_person_35 : decode bX_person 35 = .ok (.invokevirtual 94, 3) := by decide +kernel
theorem dX_person_38 : decode bX_person 38 = .ok (.ifCond .ne 14, 3) := by decide +kernel
theorem dX_person_41 : decode bX_person 41 = .ok (.goto 8, 3) := by decide +kernel
theorem dX_person_44 : decode bX_person 44 = .ok (.iload_n 2, 1) := by decide +kernel
theorem dX_person_45 : decode bX_person 45 = .ok (.iconst (-1), 1) := by decide +kernel
theorem dX_person_46 : decode bX_person 46 = .ok (.if_icmp .eq 6, 3) := by decide +kernel
theorem dX_person_49 : decode bX_person 49 = .ok (.bipush (-101), 2) := by decide +kernel
theorem dX_person_51 : decode bX_person 51 = .ok (.ireturn, 1) := by decide +kernel
theorem dX_person_52 : decode bX_person 52 = .ok (.aload_n 0, 1) := by decide +kernel
theorem dX_person_53 : decode bX_person 53 = .ok (.getfield 10, 3) := by decide +kernel
theorem dX_person_56 : decode bX_person 56 = .ok (.iload_n 3, 1) := by decide +kernel
theorem dX_person_57 : decode bX_person 57 = .ok (.iload 4, 2) := by decide +kernel
theorem dX_person_59 : decode bX_person 59 = .ok (.iload 5, 2) := by decide +kernel
theorem dX_person_61 : decode bX_person 61 = .ok (.invokevirtual 98, 3) := by decide +kernel
theorem dX_person_64 : decode bX_person 64 = .ok (.ifCond .eq 25, 3) := by decide +kernel
theorem dX_person_67 : decode bX_person 67 = .ok (.iload 6, 2) := by decide +kernel
theorem dX_person_69 : decode bX_person 69 = .ok (.iconst 0, 1) := by decide +kernel
theorem dX_person_70 : decode bX_person 70 = .ok (.iconst 3, 1) := by decide +kernel
theorem dX_person_71 : decode bX_person 71 = .ok (.invokestatic 70, 3) := by decide +kernel
theorem dX_person_74 : decode bX_person 74 = .ok (.ifCond .ne 15, 3) := by decide +kernel
theorem dX_person_77 : decode bX_person 77 = .ok (.iload 7, 2) := by decide +kernel
theorem dX_person_79 : decode bX_person 79 = .ok (.iconst 0, 1) := by decide +kernel
theorem dX_person_80 : decode bX_person 80 = .ok (.sipush 999, 3) := by decide +kernel
theorem dX_person_83 : decode bX_person 83 = .ok (.invokestatic 70, 3) := by decide +kernel
theorem dX_person_86 : decode bX_person 86 = .ok (.ifCond .eq 6, 3) := by decide +kernel
theorem dX_person_89 : decode bX_person 89 = .ok (.bipush (-102), 2) := by decide +kernel
theorem dX_person_91 : decode bX_person 91 = .ok (.ireturn, 1) := by decide +kernel
theorem dX_person_92 : decode bX_person 92 = .ok (.aload_n 0, 1) := by decide +kernel
theorem dX_person_93 : decode bX_person 93 = .ok (.getfield 19, 3) := by decide +kernel
theorem dX_person_96 : decode bX_person 96 = .ok (.iload_n 3, 1) := by decide +kernel
theorem dX_person_97 : decode bX_person 97 = .ok (.iload 4, 2) := by decide +kernel
theorem dX_person_99 : decode bX_person 99 = .ok (.iload 5, 2) := by decide +kernel
theorem dX_person_101 : decode bX_person 101 = .ok (.invokevirtual 101, 3) := by decide +kernel
theorem dX_person_104 : decode bX_person 104 = .ok (.ifCond .eq 6, 3) := by decide +kernel
theorem dX_person_107 : decode bX_person 107 = .ok (.bipush (-103), 2) := by decide +kernel
theorem dX_person_109 : decode bX_person 109 = .ok (.ireturn, 1) := by decide +kernel
theorem dX_person_110 : decode bX_person 110 = .ok (.aload_n 0, 1) := by decide +kernel
theorem dX_person_111 : decode bX_person 111 = .ok (.getfield 19, 3) := by decide +kernel
theorem dX_person_114 : decode bX_person 114 = .ok (.getfield 78, 3) := by decide +kernel
theorem dX_person_117 : decode bX_person 117 = .ok (.bipush 12, 2) := by decide +kernel
theorem dX_person_119 : decode bX_person 119 = .ok (.if_icmp .lt 6, 3) := by decide +kernel
theorem dX_person_122 : decode bX_person 122 = .ok (.bipush (-104), 2) := by decide +kernel
theorem dX_person_124 : decode bX_person 124 = .ok (.ireturn, 1) := by decide +kernel
theorem dX_person_125 : decode bX_person 125 = .ok (.aload_n 0, 1) := by decide +kernel
theorem dX_person_126 : decode bX_person 126 = .ok (.getfield 19, 3) := by decide +kernel
theorem dX_person_129 : decode bX_person 129 = .ok (.getfield 78, 3) := by decide +kernel
theorem dX_person_132 : decode bX_person 132 = .ok (.istore 8, 2) := by decide +kernel
theorem dX_person_134 : decode bX_person 134 = .ok (.aload_n 0, 1) := by decide +kernel
theorem dX_person_135 : decode bX_person 135 = .ok (.getfield 19, 3) := by decide +kernel
theorem dX_person_138 : decode bX_person 138 = .ok (.getfield 104, 3) := by decide +kernel
theorem dX_person_141 : decode bX_person 141 = .ok (.iload 8, 2) := by decide +kernel
theorem dX_person_143 : decode bX_person 143 = .ok (.iload_n 1, 1) := by decide +kernel
theorem dX_person_144 : decode bX_person 144 = .ok (.iastore, 1) := by decide +kernel
theorem dX_person_145 : decode bX_person 145 = .ok (.aload_n 0, 1) := by decide +kernel
theorem dX_person_146 : decode bX_person 146 = .ok (.getfield 19, 3) := by decide +kernel
theorem dX_person_149 : decode bX_person 149 = .ok (.getfield 108, 3) := by decide +kernel
theorem dX_person_152 : decode bX_person 152 = .ok (.iload 8, 2) := by decide +kernel
theorem dX_person_154 : decode bX_person 154 = .ok (.iload_n 2, 1) := by decide +kernel
theorem dX_person_155 : decode bX_person 155 = .ok (.iastore, 1) := by decide +kernel
theorem dX_person_156 : decode bX_person 156 = .ok (.aload_n 0, 1) := by decide +kernel
theorem dX_person_157 : decode bX_person 157 = .ok (.getfield 19, 3) := by decide +kernel
theorem dX_person_160 : decode bX_person 160 = .ok (.getfield 111, 3) := by decide +kernel
theorem dX_person_163 : decode bX_person 163 = .ok (.iload 8, 2) := by decide +kernel
theorem dX_person_165 : decode bX_person 165 = .ok (.iload_n 3, 1) := by decide +kernel
theorem dX_person_166 : decode bX_person 166 = .ok (.iastore, 1) := by decide +kernel
theorem dX_person_167 : decode bX_person 167 = .ok (.aload_n 0, 1) := by decide +kernel
theorem dX_person_168 : decode bX_person 168 = .ok (.getfield 19, 3) := by decide +kernel
theorem dX_person_171 : decode bX_person 171 = .ok (.getfield 114, 3) := by decide +kernel
theorem dX_person_174 : decode bX_person 174 = .ok (.iload 8, 2) := by decide +kernel
theorem dX_person_176 : decode bX_person 176 = .ok (.iload 4, 2) := by decide +kernel
theorem dX_person_178 : decode bX_person 178 = .ok (.iastore, 1) := by decide +kernel
theorem dX_person_179 : decode bX_person 179 = .ok (.aload_n 0, 1) := by decide +kernel
theorem dX_person_180 : decode bX_person 180 = .ok (.getfield 19, 3) := by decide +kernel
theorem dX_person_183 : decode bX_person 183 = .ok (.getfield 117, 3) := by decide +kernel
theorem dX_person_186 : decode bX_person 186 = .ok (.iload 8, 2) := by decide +kernel
theorem dX_person_188 : decode bX_person 188 = .ok (.iload 5, 2) := by decide +kernel
theorem dX_person_190 : decode bX_person 190 = .ok (.iastore, 1) := by decide +kernel
theorem dX_person_191 : decode bX_person 191 = .ok (.aload_n 0, 1) := by decide +kernel
theorem dX_person_192 : decode bX_person 192 = .ok (.getfield 19, 3) := by decide +kernel
theorem dX_person_195 : decode bX_person 195 = .ok (.getfield 120, 3) := by decide +kernel
theorem dX_person_198 : decode bX_person 198 = .ok (.iload 8, 2) := by decide +kernel
theorem dX_person_200 : decode bX_person 200 = .ok (.iload 6, 2) := by decide +kernel
theorem dX_person_202 : decode bX_person 202 = .ok (.iastore, 1) := by decide +kernel
theorem dX_person_203 : decode bX_person 203 = .ok (.aload_n 0, 1) := by decide +kernel
theorem dX_person_204 : decode bX_person 204 = .ok (.getfield 19, 3) := by decide +kernel
theorem dX_person_207 : decode bX_person 207 = .ok (.getfield 123, 3) := by decide +kernel
theorem dX_person_210 : decode bX_person 210 = .ok (.iload 8, 2) := by decide +kernel
theorem dX_person_212 : decode bX_person 212 = .ok (.iload 7, 2) := by decide +kernel
theorem dX_person_214 : decode bX_person 214 = .ok (.iastore, 1) := by decide +kernel
theorem dX_person_215 : decode bX_person 215 = .ok (.aload_n 0, 1) := by decide +kernel
theorem dX_person_216 : decode bX_person 216 = .ok (.getfield 19, 3) := by decide +kernel
theorem dX_person_219 : decode bX_person 219 = .ok (.dup, 1) := by decide +kernel
theorem dX_person_220 : decode bX_person 220 = .ok (.getfield 78, 3) := by decide +kernel
theorem dX_person_223 : decode bX_person 223 = .ok (.iconst 1, 1) := by decide +kernel
theorem dX_person_224 : decode bX_person 224 = .ok (.iadd, 1) := by decide +kernel
theorem dX_person_225 : decode bX_person 225 = .ok (.putfield 78, 3) := by decide +kernel
theorem dX_person_228 : decode bX_person 228 = .ok (.iload 8, 2) := by decide +kernel
theorem dX_person_230 : decode bX_person 230 = .ok (.ireturn, 1) := by decide +kernel
theorem dX_as_0 : decode bX_as 0 = .ok (.aload_n 0, 1) := by decide +kernel
theorem dX_as_1 : decode bX_as 1 = .ok (.getfield 19, 3) := by decide +kernel
theorem dX_as_4 : decode bX_as 4 = .ok (.iload_n 1, 1) := by decide +kernel
theorem dX_as_5 : decode bX_as 5 = .ok (.invokevirtual 94, 3) := by decide +kernel
theorem dX_as_8 : decode bX_as 8 = .ok (.ifCond .ne 6, 3) := by decide +kernel
theorem dX_as_11 : decode bX_as 11 = .ok (.bipush (-101), 2) := by decide +kernel
theorem dX_as_13 : decode bX_as 13 = .ok (.ireturn, 1) := by decide +kernel
theorem dX_as_14 : decode bX_as 14 = .ok (.iload_n 2, 1) := by decide +kernel
theorem dX_as_15 : decode bX_as 15 = .ok (.iconst 0, 1) := by decide +kernel
theorem dX_as_16 : decode bX_as 16 = .ok (.iconst 3, 1) := by decide +kernel
theorem dX_as_17 : decode bX_as 17 = .ok (.invokestatic 70, 3) := by decide +kernel
theorem dX_as_20 : decode bX_as 20 = .ok (.ifCond .eq 6, 3) := by decide +kernel
theorem dX_as_23 : decode bX_as 23 = .ok (.bipush (-102), 2) := by decide +kernel
theorem dX_as_25 : decode bX_as 25 = .ok (.ireturn, 1) := by decide +kernel
theorem dX_as_26 : decode bX_as 26 = .ok (.aload_n 0, 1) := by decide +kernel
theorem dX_as_27 : decode bX_as 27 = .ok (.getfield 19, 3) := by decide +kernel
theorem dX_as_30 : decode bX_as 30 = .ok (.iload_n 1, 1) := by decide +kernel
theorem dX_as_31 : decode bX_as 31 = .ok (.iload_n 2, 1) := by decide +kernel
theorem dX_as_32 : decode bX_as 32 = .ok (.invokevirtual 126, 3) := by decide +kernel
theorem dX_as_35 : decode bX_as 35 = .ok (.ifCond .eq 7, 3) := by decide +kernel
theorem dX_as_38 : decode bX_as 38 = .ok (.iload_n 1, 1) := by decide +kernel
theorem dX_as_39 : decode bX_as 39 = .ok (.goto 4, 3) := by decide +kernel
theorem dX_as_42 : decode bX_as 42 = .ok (.iconst (-1), 1) := by decide +kernel
theorem dX_as_43 : decode bX_as 43 = .ok (.ireturn, 1) := by decide +kernel
theorem dX_about_0 : decode bX_about 0 = .ok (.aload_n 0, 1) := by decide +kernel
theorem dX_about_1 : decode bX_about 1 = .ok (.getfield 19, 3) := by decide +kernel
theorem dX_about_4 : decode bX_about 4 = .ok (.iload_n 1, 1) := by decide +kernel
theorem dX_about_5 : decode bX_about 5 = .ok (.invokevirtual 94, 3) := by decide +kernel
theorem dX_about_8 : decode bX_about 8 = .ok (.ifCond .ne 6, 3) := by decide +kernel
theorem dX_about_11 : decode bX_about 11 = .ok (.bipush (-101), 2) := by decide +kernel
theorem dX_about_13 : decode bX_about 13 = .ok (.ireturn, 1) := by decide +kernel
theorem dX_about_14 : decode bX_about 14 = .ok (.iload_n 2, 1) := by decide +kernel
theorem dX_about_15 : decode bX_about 15 = .ok (.iconst 0, 1) := by decide +kernel
theorem dX_about_16 : decode bX_about 16 = .ok (.bipush 6, 2) := by decide +kernel
theorem dX_about_18 : decode bX_about 18 = .ok (.invokestatic 70, 3) := by decide +kernel
theorem dX_about_21 : decode bX_about 21 = .ok (.ifCond .eq 8, 3) := by decide +kernel
theorem dX_about_24 : decode bX_about 24 = .ok (.bipush (-102), 2) := by decide +kernel
theorem dX_about_26 : decode bX_about 26 = .ok (.goto 12, 3) := by decide +kernel
theorem dX_about_29 : decode bX_about 29 = .ok (.aload_n 0, 1) := by decide +kernel
theorem dX_about_30 : decode bX_about 30 = .ok (.getfield 19, 3) := by decide +kernel
theorem dX_about_33 : decode bX_about 33 = .ok (.iload_n 1, 1) := by decide +kernel
theorem dX_about_34 : decode bX_about 34 = .ok (.iload_n 2, 1) := by decide +kernel
theorem dX_about_35 : decode bX_about 35 = .ok (.invokevirtual 130, 3) := by decide +kernel
theorem dX_about_38 : decode bX_about 38 = .ok (.ireturn, 1) := by decide +kernel
theorem dX_change_0 : decode bX_change 0 = .ok (.aload_n 0, 1) := by decide +kernel
theorem dX_change_1 : decode bX_change 1 = .ok (.getfield 19, 3) := by decide +kernel
theorem dX_change_4 : decode bX_change 4 = .ok (.iload_n 1, 1) := by decide +kernel
theorem dX_change_5 : decode bX_change 5 = .ok (.invokevirtual 94, 3) := by decide +kernel
theorem dX_change_8 : decode bX_change 8 = .ok (.ifCond .ne 6, 3) := by decide +kernel
theorem dX_change_11 : decode bX_change 11 = .ok (.bipush (-101), 2) := by decide +kernel
theorem dX_change_13 : decode bX_change 13 = .ok (.ireturn, 1) := by decide +kernel
theorem dX_change_14 : decode bX_change 14 = .ok (.iload_n 2, 1) := by decide +kernel
theorem dX_change_15 : decode bX_change 15 = .ok (.iconst 5, 1) := by decide +kernel
theorem dX_change_16 : decode bX_change 16 = .ok (.bipush 6, 2) := by decide +kernel
theorem dX_change_18 : decode bX_change 18 = .ok (.invokestatic 70, 3) := by decide +kernel
theorem dX_change_21 : decode bX_change 21 = .ok (.ifCond .ne 23, 3) := by decide +kernel
theorem dX_change_24 : decode bX_change 24 = .ok (.iload_n 3, 1) := by decide +kernel
theorem dX_change_25 : decode bX_change 25 = .ok (.iconst 0, 1) := by decide +kernel
theorem dX_change_26 : decode bX_change 26 = .ok (.iload_n 2, 1) := by decide +kernel
theorem dX_change_27 : decode bX_change 27 = .ok (.iconst 5, 1) := by decide +kernel
theorem dX_change_28 : decode bX_change 28 = .ok (.if_icmp .ne 7, 3) := by decide +kernel
theorem dX_change_31 : decode bX_change 31 = .ok (.iconst 3, 1) := by decide +kernel
theorem dX_change_32 : decode bX_change 32 = .ok (.goto 6, 3) := by decide +kernel
theorem dX_change_35 : decode bX_change 35 = .ok (.sipush 999, 3) := by decide +kernel
theorem dX_change_38 : decode bX_change 38 = .ok (.invokestatic 70, 3) := by decide +kernel
theorem dX_change_41 : decode bX_change 41 = .ok (.ifCond .eq 6, 3) := by decide +kernel
theorem dX_change_44 : decode bX_change 44 = .ok (.bipush (-102), 2) := by decide +kernel
theorem dX_change_46 : decode bX_change 46 = .ok (.ireturn, 1) := by decide +kernel
theorem dX_change_47 : decode bX_change 47 = .ok (.aload_n 0, 1) := by decide +kernel
theorem dX_change_48 : decode bX_change 48 = .ok (.getfield 19, 3) := by decide +kernel
theorem dX_change_51 : decode bX_change 51 = .ok (.iload_n 1, 1) := by decide +kernel
theorem dX_change_52 : decode bX_change 52 = .ok (.iload_n 2, 1) := by decide +kernel
theorem dX_change_53 : decode bX_change 53 = .ok (.invokevirtual 130, 3) := by decide +kernel
theorem dX_change_56 : decode bX_change 56 = .ok (.istore 4, 2) := by decide +kernel
theorem dX_change_58 : decode bX_change 58 = .ok (.iload_n 2, 1) := by decide +kernel
theorem dX_change_59 : decode bX_change 59 = .ok (.iconst 5, 1) := by decide +kernel
theorem dX_change_60 : decode bX_change 60 = .ok (.if_icmp .ne 16, 3) := by decide +kernel
theorem dX_change_63 : decode bX_change 63 = .ok (.aload_n 0, 1) := by decide +kernel
theorem dX_change_64 : decode bX_change 64 = .ok (.getfield 19, 3) := by decide +kernel
theorem dX_change_67 : decode bX_change 67 = .ok (.getfield 120, 3) := by decide +kernel
theorem dX_change_70 : decode bX_change 70 = .ok (.iload_n 1, 1) := by decide +kernel
theorem dX_change_71 : decode bX_change 71 = .ok (.iload_n 3, 1) := by decide +kernel
theorem dX_change_72 : decode bX_change 72 = .ok (.iastore, 1) := by decide +kernel
theorem dX_change_73 : decode bX_change 73 = .ok (.goto 13, 3) := by decide +kernel
theorem dX_change_76 : decode bX_change 76 = .ok (.aload_n 0, 1) := by decide +kernel
theorem dX_change_77 : decode bX_change 77 = .ok (.getfield 19, 3) := by decide +kernel
theorem dX_change_80 : decode bX_change 80 = .ok (.getfield 123, 3) := by decide +kernel
theorem dX_change_83 : decode bX_change 83 = .ok (.iload_n 1, 1) := by decide +kernel
theorem dX_change_84 : decode bX_change 84 = .ok (.iload_n 3, 1) := by decide +kernel
theorem dX_change_85 : decode bX_change 85 = .ok (.iastore, 1) := by decide +kernel
theorem dX_change_86 : decode bX_change 86 = .ok (.iload 4, 2) := by decide +kernel
theorem dX_change_88 : decode bX_change 88 = .ok (.ireturn, 1) := by decide +kernel
theorem dX_letters_0 : decode bX_letters 0 = .ok (.lload_n 1, 1) := by decide +kernel
theorem dX_letters_1 : decode bX_letters 1 = .ok (.invokestatic 134, 3) := by decide +kernel
theorem dX_letters_4 : decode bX_letters 4 = .ok (.istore_n 3, 1) := by decide +kernel
theorem dX_letters_5 : decode bX_letters 5 = .ok (.iload_n 3, 1) := by decide +kernel
theorem dX_letters_6 : decode bX_letters 6 = .ok (.iconst (-1), 1) := by decide +kernel
theorem dX_letters_7 : decode bX_letters 7 = .ok (.if_icmp .ne 6, 3) := by decide +kernel
theorem dX_letters_10 : decode bX_letters 10 = .ok (.bipush (-102), 2) := by decide +kernel
theorem dX_letters_12 : decode bX_letters 12 = .ok (.ireturn, 1) := by decide +kernel
theorem dX_letters_13 : decode bX_letters 13 = .ok (.aload_n 0, 1) := by decide +kernel
theorem dX_letters_14 : decode bX_letters 14 = .ok (.getfield 33, 3) := by decide +kernel
theorem dX_letters_17 : decode bX_letters 17 = .ok (.getfield 138, 3) := by decide +kernel
theorem dX_letters_20 : decode bX_letters 20 = .ok (.iload_n 3, 1) := by decide +kernel
theorem dX_letters_21 : decode bX_letters 21 = .ok (.iadd, 1) := by decide +kernel
theorem dX_letters_22 : decode bX_letters 22 = .ok (.bipush 16, 2) := by decide +kernel
theorem dX_letters_24 : decode bX_letters 24 = .ok (.if_icmp .le 6, 3) := by decide +kernel
theorem dX_letters_27 : decode bX_letters 27 = .ok (.bipush (-104), 2) := by decide +kernel
theorem dX_letters_29 : decode bX_letters 29 = .ok (.ireturn, 1) := by decide +kernel
theorem dX_letters_30 : decode bX_letters 30 = .ok (.aload_n 0, 1) := by decide +kernel
theorem dX_letters_31 : decode bX_letters 31 = .ok (.getfield 33, 3) := by decide +kernel
theorem dX_letters_34 : decode bX_letters 34 = .ok (.lload_n 1, 1) := by decide +kernel
theorem dX_letters_35 : decode bX_letters 35 = .ok (.iload_n 3, 1) := by decide +kernel
theorem dX_letters_36 : decode bX_letters 36 = .ok (.invokevirtual 139, 3) := by decide +kernel
theorem dX_letters_39 : decode bX_letters 39 = .ok (.aload_n 0, 1) := by decide +kernel
theorem dX_letters_40 : decode bX_letters 40 = .ok (.getfield 33, 3) := by decide +kernel
theorem dX_letters_43 : decode bX_letters 43 = .ok (.getfield 138, 3) := by decide +kernel
theorem dX_letters_46 : decode bX_letters 46 = .ok (.ireturn, 1) := by decide +kernel
theorem dX_blank_0 : decode bX_blank 0 = .ok (.aload_n 0, 1) := by decide +kernel
theorem dX_blank_1 : decode bX_blank 1 = .ok (.getfield 33, 3) := by decide +kernel
theorem dX_blank_4 : decode bX_blank 4 = .ok (.getfield 138, 3) := by decide +kernel
theorem dX_blank_7 : decode bX_blank 7 = .ok (.istore_n 1, 1) := by decide +kernel
theorem dX_blank_8 : decode bX_blank 8 = .ok (.aload_n 0, 1) := by decide +kernel
theorem dX_blank_9 : decode bX_blank 9 = .ok (.getfield 33, 3) := by decide +kernel
theorem dX_blank_12 : decode bX_blank 12 = .ok (.iconst 0, 1) := by decide +kernel
theorem dX_blank_13 : decode bX_blank 13 = .ok (.putfield 138, 3) := by decide +kernel
theorem dX_blank_16 : decode bX_blank 16 = .ok (.iload_n 1, 1) := by decide +kernel
theorem dX_blank_17 : decode bX_blank 17 = .ok (.ireturn, 1) := by decide +kernel
theorem dX_fault_0 : decode bX_fault 0 = .ok (.aload_n 0, 1) := by decide +kernel
theorem dX_fault_1 : decode bX_fault 1 = .ok (.getfield 33, 3) := by decide +kernel
theorem dX_fault_4 : decode bX_fault 4 = .ok (.invokevirtual 143, 3) := by decide +kernel
theorem dX_fault_7 : decode bX_fault 7 = .ok (.ireturn, 1) := by decide +kernel
theorem dX_call_0 : decode bX_call 0 = .ok (.aload_n 0, 1) := by decide +kernel
theorem dX_call_1 : decode bX_call 1 = .ok (.getfield 33, 3) := by decide +kernel
theorem dX_call_4 : decode bX_call 4 = .ok (.invokevirtual 146, 3) := by decide +kernel
theorem dX_call_7 : decode bX_call 7 = .ok (.ifCond .ne 6, 3) := by decide +kernel
theorem dX_call_10 : decode bX_call 10 = .ok (.bipush (-103), 2) := by decide +kernel
theorem dX_call_12 : decode bX_call 12 = .ok (.ireturn, 1) := by decide +kernel
theorem dX_call_13 : decode bX_call 13 = .ok (.aload_n 0, 1) := by decide +kernel
theorem dX_call_14 : decode bX_call 14 = .ok (.getfield 149, 3) := by decide +kernel
theorem dX_call_17 : decode bX_call 17 = .ok (.bipush 8, 2) := by decide +kernel
theorem dX_call_19 : decode bX_call 19 = .ok (.if_icmp .lt 6, 3) := by decide +kernel
theorem dX_call_22 : decode bX_call 22 = .ok (.bipush (-104), 2) := by decide +kernel
theorem dX_call_24 : decode bX_call 24 = .ok (.ireturn, 1) := by decide +kernel
theorem dX_call_25 : decode bX_call 25 = .ok (.aload_n 0, 1) := by decide +kernel
theorem dX_call_26 : decode bX_call 26 = .ok (.getfield 39, 3) := by decide +kernel
theorem dX_call_29 : decode bX_call 29 = .ok (.aload_n 0, 1) := by decide +kernel
theorem dX_call_30 : decode bX_call 30 = .ok (.getfield 149, 3) := by decide +kernel
theorem dX_call_33 : decode bX_call 33 = .ok (.aaload, 1) := by decide +kernel
theorem dX_call_34 : decode bX_call 34 = .ok (.aload_n 0, 1) := by decide +kernel
theorem dX_call_35 : decode bX_call 35 = .ok (.getfield 33, 3) := by decide +kernel
theorem dX_call_38 : decode bX_call 38 = .ok (.invokevirtual 152, 3) := by decide +kernel
theorem dX_call_41 : decode bX_call 41 = .ok (.aload_n 0, 1) := by decide +kernel
theorem dX_call_42 : decode bX_call 42 = .ok (.getfield 33, 3) := by decide +kernel
theorem dX_call_45 : decode bX_call 45 = .ok (.iconst 0, 1) := by decide +kernel
theorem dX_call_46 : decode bX_call 46 = .ok (.putfield 138, 3) := by decide +kernel
theorem dX_call_49 : decode bX_call 49 = .ok (.aload_n 0, 1) := by decide +kernel
theorem dX_call_50 : decode bX_call 50 = .ok (.dup, 1) := by decide +kernel
theorem dX_call_51 : decode bX_call 51 = .ok (.getfield 149, 3) := by decide +kernel
theorem dX_call_54 : decode bX_call 54 = .ok (.iconst 1, 1) := by decide +kernel
theorem dX_call_55 : decode bX_call 55 = .ok (.iadd, 1) := by decide +kernel
theorem dX_call_56 : decode bX_call 56 = .ok (.putfield 149, 3) := by decide +kernel
theorem dX_call_59 : decode bX_call 59 = .ok (.aload_n 0, 1) := by decide +kernel
theorem dX_call_60 : decode bX_call 60 = .ok (.getfield 149, 3) := by decide +kernel
theorem dX_call_63 : decode bX_call 63 = .ok (.iconst 1, 1) := by decide +kernel
theorem dX_call_64 : decode bX_call 64 = .ok (.isub, 1) := by decide +kernel
theorem dX_call_65 : decode bX_call 65 = .ok (.ireturn, 1) := by decide +kernel
theorem dX_order_0 : decode bX_order 0 = .ok (.aload_n 0, 1) := by decide +kernel
theorem dX_order_1 : decode bX_order 1 = .ok (.iload_n 1, 1) := by decide +kernel
theorem dX_order_2 : decode bX_order 2 = .ok (.invokevirtual 156, 3) := by decide +kernel
theorem dX_order_5 : decode bX_order 5 = .ok (.istore_n 3, 1) := by decide +kernel
theorem dX_order_6 : decode bX_order 6 = .ok (.iload_n 3, 1) := by decide +kernel
theorem dX_order_7 : decode bX_order 7 = .ok (.ifCond .eq 5, 3) := by decide +kernel
theorem dX_order_10 : decode bX_order 10 = .ok (.iload_n 3, 1) := by decide +kernel
theorem dX_order_11 : decode bX_order 11 = .ok (.ireturn, 1) := by decide +kernel
theorem dX_order_12 : decode bX_order 12 = .ok (.iload_n 2, 1) := by decide +kernel
theorem dX_order_13 : decode bX_order 13 = .ok (.iconst 0, 1) := by decide +kernel
theorem dX_order_14 : decode bX_order 14 = .ok (.bipush 11, 2) := by decide +kernel
theorem dX_order_16 : decode bX_order 16 = .ok (.invokestatic 70, 3) := by decide +kernel
theorem dX_order_19 : decode bX_order 19 = .ok (.ifCond .eq 6, 3) := by decide +kernel
theorem dX_order_22 : decode bX_order 22 = .ok (.bipush (-102), 2) := by decide +kernel
theorem dX_order_24 : decode bX_order 24 = .ok (.ireturn, 1) := by decide +kernel
theorem dX_order_25 : decode bX_order 25 = .ok (.aload_n 0, 1) := by decide +kernel
theorem dX_order_26 : decode bX_order 26 = .ok (.iload_n 1, 1) := by decide +kernel
theorem dX_order_27 : decode bX_order 27 = .ok (.iconst 3, 1) := by decide +kernel
theorem dX_order_28 : decode bX_order 28 = .ok (.invokevirtual 160, 3) := by decide +kernel
theorem dX_order_31 : decode bX_order 31 = .ok (.iload_n 2, 1) := by decide +kernel
theorem dX_order_32 : decode bX_order 32 = .ok (.aload_n 0, 1) := by decide +kernel
theorem dX_order_33 : decode bX_order 33 = .ok (.getfield 46, 3) := by decide +kernel
theorem dX_order_36 : decode bX_order 36 = .ok (.getfield 164, 3) := by decide +kernel
theorem dX_order_39 : decode bX_order 39 = .ok (.if_icmp .ge 15, 3) := by decide +kernel
theorem dX_order_42 : decode bX_order 42 = .ok (.aload_n 0, 1) := by decide +kernel
theorem dX_order_43 : decode bX_order 43 = .ok (.getfield 46, 3) := by decide +kernel
theorem dX_order_46 : decode bX_order 46 = .ok (.getfield 165, 3) := by decide +kernel
theorem dX_order_49 : decode bX_order 49 = .ok (.iload_n 2, 1) := by decide +kernel
theorem dX_order_50 : decode bX_order 50 = .ok (.iaload, 1) := by decide +kernel
theorem dX_order_51 : decode bX_order 51 = .ok (.goto 4, 3) := by decide +kernel
theorem dX_order_54 : decode bX_order 54 = .ok (.iconst (-1), 1) := by decide +kernel
theorem dX_order_55 : decode bX_order 55 = .ok (.ireturn, 1) := by decide +kernel
theorem dX_board_0 : decode bX_board 0 = .ok (.aload_n 0, 1) := by decide +kernel
theorem dX_board_1 : decode bX_board 1 = .ok (.iload_n 1, 1) := by decide +kernel
theorem dX_board_2 : decode bX_board 2 = .ok (.invokevirtual 156, 3) := by decide +kernel
theorem dX_board_5 : decode bX_board 5 = .ok (.istore_n 3, 1) := by decide +kernel
theorem dX_board_6 : decode bX_board 6 = .ok (.iload_n 3, 1) := by decide +kernel
theorem dX_board_7 : decode bX_board 7 = .ok (.ifCond .eq 5, 3) := by decide +kernel
theorem dX_board_10 : decode bX_board 10 = .ok (.iload_n 3, 1) := by decide +kernel
theorem dX_board_11 : decode bX_board 11 = .ok (.ireturn, 1) := by decide +kernel
theorem dX_board_12 : decode bX_board 12 = .ok (.iload_n 2, 1) := by decide +kernel
theorem dX_board_13 : decode bX_board 13 = .ok (.iconst 0, 1) := by decide +kernel
theorem dX_board_14 : decode bX_board 14 = .ok (.iconst 2, 1) := by decide +kernel
theorem dX_board_15 : decode bX_board 15 = .ok (.invokestatic 70, 3) := by decide +kernel
theorem dX_board_18 : decode bX_board 18 = .ok (.ifCond .eq 6, 3) := by decide +kernel
theorem dX_board_21 : decode bX_board 21 = .ok (.bipush (-102), 2) := by decide +kernel
theorem dX_board_23 : decode bX_board 23 = .ok (.ireturn, 1) := by decide +kernel
theorem dX_board_24 : decode bX_board 24 = .ok (.aload_n 0, 1) := by decide +kernel
theorem dX_board_25 : decode bX_board 25 = .ok (.iload_n 1, 1) := by decide +kernel
theorem dX_board_26 : decode bX_board 26 = .ok (.iconst 3, 1) := by decide +kernel
theorem dX_board_27 : decode bX_board 27 = .ok (.sipush 9999, 3) := by decide +kernel
theorem dX_board_30 : decode bX_board 30 = .ok (.invokevirtual 168, 3) := by decide +kernel
theorem dX_board_33 : decode bX_board 33 = .ok (.aload_n 0, 1) := by decide +kernel
theorem dX_board_34 : decode bX_board 34 = .ok (.getfield 59, 3) := by decide +kernel
theorem dX_board_37 : decode bX_board 37 = .ok (.iload_n 2, 1) := by decide +kernel
theorem dX_board_38 : decode bX_board 38 = .ok (.invokevirtual 171, 3) := by decide +kernel
theorem dX_board_41 : decode bX_board 41 = .ok (.ireturn, 1) := by decide +kernel
theorem dX_sits_0 : decode bX_sits 0 = .ok (.aload_n 0, 1) := by decide +kernel
theorem dX_sits_1 : decode bX_sits 1 = .ok (.iload_n 1, 1) := by decide +kernel
theorem dX_sits_2 : decode bX_sits 2 = .ok (.invokevirtual 173, 3) := by decide +kernel
theorem dX_sits_5 : decode bX_sits 5 = .ok (.ifCond .eq 14, 3) := by decide +kernel
theorem dX_sits_8 : decode bX_sits 8 = .ok (.aload_n 0, 1) := by decide +kernel
theorem dX_sits_9 : decode bX_sits 9 = .ok (.getfield 19, 3) := by decide +kernel
theorem dX_sits_12 : decode bX_sits 12 = .ok (.iload_n 2, 1) := by decide +kernel
theorem dX_sits_13 : decode bX_sits 13 = .ok (.invokevirtual 94, 3) := by decide +kernel
theorem dX_sits_16 : decode bX_sits 16 = .ok (.ifCond .ne 6, 3) := by decide +kernel
theorem dX_sits_19 : decode bX_sits 19 = .ok (.bipush (-101), 2) := by decide +kernel
theorem dX_sits_21 : decode bX_sits 21 = .ok (.ireturn, 1) := by decide +kernel
theorem dX_sits_22 : decode bX_sits 22 = .ok (.iload_n 3, 1) := by decide +kernel
theorem dX_sits_23 : decode bX_sits 23 = .ok (.iconst 0, 1) := by decide +kernel
theorem dX_sits_24 : decode bX_sits 24 = .ok (.iconst 4, 1) := by decide +kernel
theorem dX_sits_25 : decode bX_sits 25 = .ok (.invokestatic 70, 3) := by decide +kernel
theorem dX_sits_28 : decode bX_sits 28 = .ok (.ifCond .eq 6, 3) := by decide +kernel
theorem dX_sits_31 : decode bX_sits 31 = .ok (.bipush (-102), 2) := by decide +kernel
theorem dX_sits_33 : decode bX_sits 33 = .ok (.ireturn, 1) := by decide +kernel
theorem dX_sits_34 : decode bX_sits 34 = .ok (.aload_n 0, 1) := by decide +kernel
theorem dX_sits_35 : decode bX_sits 35 = .ok (.iload_n 1, 1) := by decide +kernel
theorem dX_sits_36 : decode bX_sits 36 = .ok (.iconst 3, 1) := by decide +kernel
theorem dX_sits_37 : decode bX_sits 37 = .ok (.sipush 9999, 3) := by decide +kernel
theorem dX_sits_40 : decode bX_sits 40 = .ok (.invokevirtual 168, 3) := by decide +kernel
theorem dX_sits_43 : decode bX_sits 43 = .ok (.aload_n 0, 1) := by decide +kernel
theorem dX_sits_44 : decode bX_sits 44 = .ok (.getfield 59, 3) := by decide +kernel
theorem dX_sits_47 : decode bX_sits 47 = .ok (.iload_n 2, 1) := by decide +kernel
theorem dX_sits_48 : decode bX_sits 48 = .ok (.iload_n 3, 1) := by decide +kernel
theorem dX_sits_49 : decode bX_sits 49 = .ok (.invokevirtual 176, 3) := by decide +kernel
theorem dX_sits_52 : decode bX_sits 52 = .ok (.ireturn, 1) := by decide +kernel
theorem dX_stands_0 : decode bX_stands 0 = .ok (.aload_n 0, 1) := by decide +kernel
theorem dX_stands_1 : decode bX_stands 1 = .ok (.iload_n 1, 1) := by decide +kernel
theorem dX_stands_2 : decode bX_stands 2 = .ok (.invokevirtual 156, 3) := by decide +kernel
theorem dX_stands_5 : decode bX_stands 5 = .ok (.istore 4, 2) := by decide +kernel
theorem dX_stands_7 : decode bX_stands 7 = .ok (.iload 4, 2) := by decide +kernel
theorem dX_stands_9 : decode bX_stands 9 = .ok (.ifCond .eq 6, 3) := by decide +kernel
theorem dX_stands_12 : decode bX_stands 12 = .ok (.iload 4, 2) := by decide +kernel
theorem dX_stands_14 : decode bX_stands 14 = .ok (.ireturn, 1) := by decide +kernel
theorem dX_stands_15 : decode bX_stands 15 = .ok (.iload_n 2, 1) := by decide +kernel
theorem dX_stands_16 : decode bX_stands 16 = .ok (.iconst 1, 1) := by decide +kernel
theorem dX_stands_17 : decode bX_stands 17 = .ok (.sipush 999, 3) := by decide +kernel
theorem dX_stands_20 : decode bX_stands 20 = .ok (.invokestatic 70, 3) := by decide +kernel
theorem dX_stands_23 : decode bX_stands 23 = .ok (.ifCond .ne 20, 3) := by decide +kernel
theorem dX_stands_26 : decode bX_stands 26 = .ok (.iload_n 3, 1) := by decide +kernel
theorem dX_stands_27 : decode bX_stands 27 = .ok (.iconst 0, 1) := by decide +kernel
theorem dX_stands_28 : decode bX_stands 28 = .ok (.aload_n 0, 1) := by decide +kernel
theorem dX_stands_29 : decode bX_stands 29 = .ok (.getfield 10, 3) := by decide +kernel
theorem dX_stands_32 : decode bX_stands 32 = .ok (.getfield 179, 3) := by decide +kernel
theorem dX_stands_35 : decode bX_stands 35 = .ok (.iconst 1, 1) := by decide +kernel
theorem dX_stands_36 : decode bX_stands 36 = .ok (.isub, 1) := by decide +kernel
theorem dX_stands_37 : decode bX_stands 37 = .ok (.invokestatic 70, 3) := by decide +kernel
theorem dX_stands_40 : decode bX_stands 40 = .ok (.ifCond .eq 6, 3) := by decide +kernel
theorem dX_stands_43 : decode bX_stands 43 = .ok (.bipush (-102), 2) := by decide +kernel
theorem dX_stands_45 : decode bX_stands 45 = .ok (.ireturn, 1) := by decide +kernel
theorem dX_stands_46 : decode bX_stands 46 = .ok (.aload_n 0, 1) := by decide +kernel
theorem dX_stands_47 : decode bX_stands 47 = .ok (.iload_n 1, 1) := by decide +kernel
theorem dX_stands_48 : decode bX_stands 48 = .ok (.iconst 3, 1) := by decide +kernel
theorem dX_stands_49 : decode bX_stands 49 = .ok (.iload_n 2, 1) := by decide +kernel
theorem dX_stands_50 : decode bX_stands 50 = .ok (.invokevirtual 168, 3) := by decide +kernel
theorem dX_stands_53 : decode bX_stands 53 = .ok (.aload_n 0, 1) := by decide +kernel
theorem dX_stands_54 : decode bX_stands 54 = .ok (.getfield 59, 3) := by decide +kernel
theorem dX_stands_57 : decode bX_stands 57 = .ok (.getfield 182, 3) := by decide +kernel
theorem dX_stands_60 : decode bX_stands 60 = .ok (.iload_n 3, 1) := by decide +kernel
theorem dX_stands_61 : decode bX_stands 61 = .ok (.iaload, 1) := by decide +kernel
theorem dX_stands_62 : decode bX_stands 62 = .ok (.ireturn, 1) := by decide +kernel
theorem dX_least_0 : decode bX_least 0 = .ok (.aload_n 0, 1) := by decide +kernel
theorem dX_least_1 : decode bX_least 1 = .ok (.getfield 10, 3) := by decide +kernel
theorem dX_least_4 : decode bX_least 4 = .ok (.invokevirtual 90, 3) := by decide +kernel
theorem dX_least_7 : decode bX_least 7 = .ok (.ifCond .eq 6, 3) := by decide +kernel
theorem dX_least_10 : decode bX_least 10 = .ok (.bipush (-103), 2) := by decide +kernel
theorem dX_least_12 : decode bX_least 12 = .ok (.ireturn, 1) := by decide +kernel
theorem dX_least_13 : decode bX_least 13 = .ok (.iconst (-1), 1) := by decide +kernel
theorem dX_least_14 : decode bX_least 14 = .ok (.istore_n 1, 1) := by decide +kernel
theorem dX_least_15 : decode bX_least 15 = .ok (.sipush 10000, 3) := by decide +kernel
theorem dX_least_18 : decode bX_least 18 = .ok (.istore_n 2, 1) := by decide +kernel
theorem dX_least_19 : decode bX_least 19 = .ok (.iconst 0, 1) := by decide +kernel
theorem dX_least_20 : decode bX_least 20 = .ok (.istore_n 3, 1) := by decide +kernel
theorem dX_least_21 : decode bX_least 21 = .ok (.iload_n 3, 1) := by decide +kernel
theorem dX_least_22 : decode bX_least 22 = .ok (.aload_n 0, 1) := by decide +kernel
theorem dX_least_23 : decode bX_least 23 = .ok (.getfield 149, 3) := by decide +kernel
theorem dX_least_26 : decode bX_least 26 = .ok (.if_icmp .ge 39, 3) := by decide +kernel
theorem dX_least_29 : decode bX_least 29 = .ok (.aload_n 0, 1) := by decide +kernel
theorem dX_least_30 : decode bX_least 30 = .ok (.iload_n 3, 1) := by decide +kernel
theorem dX_least_31 : decode bX_least 31 = .ok (.iconst 3, 1) := by decide +kernel
theorem dX_least_32 : decode bX_least 32 = .ok (.sipush 9999, 3) := by decide +kernel
theorem dX_least_35 : decode bX_least 35 = .ok (.invokevirtual 168, 3) := by decide +kernel
theorem dX_least_38 : decode bX_least 38 = .ok (.aload_n 0, 1) := by decide +kernel
theorem dX_least_39 : decode bX_least 39 = .ok (.getfield 59, 3) := by decide +kernel
theorem dX_least_42 : decode bX_least 42 = .ok (.getfield 185, 3) := by decide +kernel
theorem dX_least_45 : decode bX_least 45 = .ok (.iload_n 2, 1) := by decide +kernel
theorem dX_least_46 : decode bX_least 46 = .ok (.if_icmp .ge 13, 3) := by decide +kernel
theorem dX_least_49 : decode bX_least 49 = .ok (.aload_n 0, 1) := by decide +kernel
theorem dX_least_50 : decode bX_least 50 = .ok (.getfield 59, 3) := by decide +kernel
theorem dX_least_53 : decode bX_least 53 = .ok (.getfield 185, 3) := by decide +kernel
theorem dX_least_56 : decode bX_least 56 = .ok (.istore_n 2, 1) := by decide +kernel
theorem dX_least_57 : decode bX_least 57 = .ok (.iload_n 3, 1) := by decide +kernel
theorem dX_least_58 : decode bX_least 58 = .ok (.istore_n 1, 1) := by decide +kernel
theorem dX_least_59 : decode bX_least 59 = .ok (.iinc 3 1, 3) := by decide +kernel
theorem dX_least_62 : decode bX_least 62 = .ok (.goto (-41), 3) := by decide +kernel
theorem dX_least_65 : decode bX_least 65 = .ok (.iload_n 1, 1) := by decide +kernel
theorem dX_least_66 : decode bX_least 66 = .ok (.ireturn, 1) := by decide +kernel
theorem dX_bestOrder_0 : decode bX_bestOrder 0 = .ok (.aload_n 0, 1) := by decide +kernel
theorem dX_bestOrder_1 : decode bX_bestOrder 1 = .ok (.getfield 10, 3) := by decide +kernel
theorem dX_bestOrder_4 : decode bX_bestOrder 4 = .ok (.invokevirtual 90, 3) := by decide +kernel
theorem dX_bestOrder_7 : decode bX_bestOrder 7 = .ok (.ifCond .eq 6, 3) := by decide +kernel
theorem dX_bestOrder_10 : decode bX_bestOrder 10 = .ok (.bipush (-103), 2) := by decide +kernel
theorem dX_bestOrder_12 : decode bX_bestOrder 12 = .ok (.ireturn, 1) := by decide +kernel
theorem dX_bestOrder_13 : decode bX_bestOrder 13 = .ok (.iload_n 1, 1) := by decide +kernel
theorem dX_bestOrder_14 : decode bX_bestOrder 14 = .ok (.iconst 0, 1) := by decide +kernel
theorem dX_bestOrder_15 : decode bX_bestOrder 15 = .ok (.bipush 6, 2) := by decide +kernel
theorem dX_bestOrder_17 : decode bX_bestOrder 17 = .ok (.invokestatic 70, 3) := by decide +kernel
theorem dX_bestOrder_20 : decode bX_bestOrder 20 = .ok (.ifCond .eq 6, 3) := by decide +kernel
theorem dX_bestOrder_23 : decode bX_bestOrder 23 = .ok (.bipush (-102), 2) := by decide +kernel
theorem dX_bestOrder_25 : decode bX_bestOrder 25 = .ok (.ireturn, 1) := by decide +kernel
theorem dX_bestOrder_26 : decode bX_bestOrder 26 = .ok (.aload_n 0, 1) := by decide +kernel
theorem dX_bestOrder_27 : decode bX_bestOrder 27 = .ok (.getfield 19, 3) := by decide +kernel
theorem dX_bestOrder_30 : decode bX_bestOrder 30 = .ok (.getfield 78, 3) := by decide +kernel
theorem dX_bestOrder_33 : decode bX_bestOrder 33 = .ok (.bipush 6, 2) := by decide +kernel
theorem dX_bestOrder_35 : decode bX_bestOrder 35 = .ok (.if_icmp .gt 12, 3) := by decide +kernel
theorem dX_bestOrder_38 : decode bX_bestOrder 38 = .ok (.aload_n 0, 1) := by decide +kernel
theorem dX_bestOrder_39 : decode bX_bestOrder 39 = .ok (.getfield 188, 3) := by decide +kernel
theorem dX_bestOrder_42 : decode bX_bestOrder 42 = .ok (.bipush 20, 2) := by decide +kernel
theorem dX_bestOrder_44 : decode bX_bestOrder 44 = .ok (.if_icmp .lt 6, 3) := by decide +kernel
theorem dX_bestOrder_47 : decode bX_bestOrder 47 = .ok (.bipush (-103), 2) := by decide +kernel
theorem dX_bestOrder_49 : decode bX_bestOrder 49 = .ok (.ireturn, 1) := by decide +kernel
theorem dX_bestOrder_50 : decode bX_bestOrder 50 = .ok (.aload_n 0, 1) := by decide +kernel
theorem dX_bestOrder_51 : decode bX_bestOrder 51 = .ok (.dup, 1) := by decide +kernel
theorem dX_bestOrder_52 : decode bX_bestOrder 52 = .ok (.getfield 188, 3) := by decide +kernel
theorem dX_bestOrder_55 : decode bX_bestOrder 55 = .ok (.iconst 1, 1) := by decide +kernel
theorem dX_bestOrder_56 : decode bX_bestOrder 56 = .ok (.iadd, 1) := by decide +kernel
theorem dX_bestOrder_57 : decode bX_bestOrder 57 = .ok (.putfield 188, 3) := by decide +kernel
theorem dX_bestOrder_60 : decode bX_bestOrder 60 = .ok (.aload_n 0, 1) := by decide +kernel
theorem dX_bestOrder_61 : decode bX_bestOrder 61 = .ok (.invokevirtual 191, 3) := by decide +kernel
theorem dX_bestOrder_64 : decode bX_bestOrder 64 = .ok (.istore_n 2, 1) := by decide +kernel
theorem dX_bestOrder_65 : decode bX_bestOrder 65 = .ok (.iload_n 1, 1) := by decide +kernel
theorem dX_bestOrder_66 : decode bX_bestOrder 66 = .ok (.ifCond .ne 5, 3) := by decide +kernel
theorem dX_bestOrder_69 : decode bX_bestOrder 69 = .ok (.iload_n 2, 1) := by decide +kernel
theorem dX_bestOrder_70 : decode bX_bestOrder 70 = .ok (.ireturn, 1) := by decide +kernel
theorem dX_bestOrder_71 : decode bX_bestOrder 71 = .ok (.iload_n 1, 1) := by decide +kernel
theorem dX_bestOrder_72 : decode bX_bestOrder 72 = .ok (.aload_n 0, 1) := by decide +kernel
theorem dX_bestOrder_73 : decode bX_bestOrder 73 = .ok (.getfield 50, 3) := by decide +kernel
theorem dX_bestOrder_76 : decode bX_bestOrder 76 = .ok (.getfield 164, 3) := by decide +kernel
theorem dX_bestOrder_79 : decode bX_bestOrder 79 = .ok (.if_icmp .gt 17, 3) := by decide +kernel
theorem dX_bestOrder_82 : decode bX_bestOrder 82 = .ok (.aload_n 0, 1) := by decide +kernel
theorem dX_bestOrder_83 : decode bX_bestOrder 83 = .ok (.getfield 50, 3) := by decide +kernel
theorem dX_bestOrder_86 : decode bX_bestOrder 86 = .ok (.getfield 165, 3) := by decide +kernel
theorem dX_bestOrder_89 : decode bX_bestOrder 89 = .ok (.iload_n 1, 1) := by decide +kernel
theorem dX_bestOrder_90 : decode bX_bestOrder 90 = .ok (.iconst 1, 1) := by decide +kernel
theorem dX_bestOrder_91 : decode bX_bestOrder 91 = .ok (.isub, 1) := by decide +kernel
theorem dX_bestOrder_92 : decode bX_bestOrder 92 = .ok (.iaload, 1) := by decide +kernel
theorem dX_bestOrder_93 : decode bX_bestOrder 93 = .ok (.goto 4, 3) := by decide +kernel
theorem dX_bestOrder_96 : decode bX_bestOrder 96 = .ok (.iconst (-1), 1) := by decide +kernel
theorem dX_bestOrder_97 : decode bX_bestOrder 97 = .ok (.ireturn, 1) := by decide +kernel
theorem dX_swap_0 : decode bX_swap 0 = .ok (.aload_n 0, 1) := by decide +kernel
theorem dX_swap_1 : decode bX_swap 1 = .ok (.iload_n 1, 1) := by decide +kernel
theorem dX_swap_2 : decode bX_swap 2 = .ok (.invokevirtual 156, 3) := by decide +kernel
theorem dX_swap_5 : decode bX_swap 5 = .ok (.istore_n 2, 1) := by decide +kernel
theorem dX_swap_6 : decode bX_swap 6 = .ok (.iload_n 2, 1) := by decide +kernel
theorem dX_swap_7 : decode bX_swap 7 = .ok (.ifCond .eq 5, 3) := by decide +kernel
theorem dX_swap_10 : decode bX_swap 10 = .ok (.iload_n 2, 1) := by decide +kernel
theorem dX_swap_11 : decode bX_swap 11 = .ok (.ireturn, 1) := by decide +kernel
theorem dX_swap_12 : decode bX_swap 12 = .ok (.aload_n 0, 1) := by decide +kernel
theorem dX_swap_13 : decode bX_swap 13 = .ok (.iload_n 1, 1) := by decide +kernel
theorem dX_swap_14 : decode bX_swap 14 = .ok (.iconst 3, 1) := by decide +kernel
theorem dX_swap_15 : decode bX_swap 15 = .ok (.sipush 9999, 3) := by decide +kernel
theorem dX_swap_18 : decode bX_swap 18 = .ok (.invokevirtual 168, 3) := by decide +kernel
theorem dX_swap_21 : decode bX_swap 21 = .ok (.aload_n 0, 1) := by decide +kernel
theorem dX_swap_22 : decode bX_swap 22 = .ok (.getfield 59, 3) := by decide +kernel
theorem dX_swap_25 : decode bX_swap 25 = .ok (.getfield 185, 3) := by decide +kernel
theorem dX_swap_28 : decode bX_swap 28 = .ok (.istore_n 3, 1) := by decide +kernel
theorem dX_swap_29 : decode bX_swap 29 = .ok (.iconst (-1), 1) := by decide +kernel
theorem dX_swap_30 : decode bX_swap 30 = .ok (.istore 4, 2) := by decide +kernel
theorem dX_swap_32 : decode bX_swap 32 = .ok (.iconst 0, 1) := by decide +kernel
theorem dX_swap_33 : decode bX_swap 33 = .ok (.istore 5, 2) := by decide +kernel
theorem dX_swap_35 : decode bX_swap 35 = .ok (.iload 5, 2) := by decide +kernel
theorem dX_swap_37 : decode bX_swap 37 = .ok (.aload_n 0, 1) := by decide +kernel
theorem dX_swap_38 : decode bX_swap 38 = .ok (.getfield 46, 3) := by decide +kernel
theorem dX_swap_41 : decode bX_swap 41 = .ok (.getfield 164, 3) := by decide +kernel
theorem dX_swap_44 : decode bX_swap 44 = .ok (.if_icmp .ge 90, 3) := by decide +kernel
theorem dX_swap_47 : decode bX_swap 47 = .ok (.iload 5, 2) := by decide +kernel
theorem dX_swap_49 : decode bX_swap 49 = .ok (.iconst 1, 1) := by decide +kernel
theorem dX_swap_50 : decode bX_swap 50 = .ok (.iadd, 1) := by decide +kernel
theorem dX_swap_51 : decode bX_swap 51 = .ok (.istore 6, 2) := by decide +kernel
theorem dX_swap_53 : decode bX_swap 53 = .ok (.iload 6, 2) := by decide +kernel
theorem dX_swap_55 : decode bX_swap 55 = .ok (.aload_n 0, 1) := by decide +kernel
theorem dX_swap_56 : decode bX_swap 56 = .ok (.getfield 46, 3) := by decide +kernel
theorem dX_swap_59 : decode bX_swap 59 = .ok (.getfield 164, 3) := by decide +kernel
theorem dX_swap_62 : decode bX_swap 62 = .ok (.if_icmp .ge 66, 3) := by decide +kernel
theorem dX_swap_65 : decode bX_swap 65 = .ok (.aload_n 0, 1) := by decide +kernel
theorem dX_swap_66 : decode bX_swap 66 = .ok (.getfield 46, 3) := by decide +kernel
theorem dX_swap_69 : decode bX_swap 69 = .ok (.iload 5, 2) := by decide +kernel
theorem dX_swap_71 : decode bX_swap 71 = .ok (.iload 6, 2) := by decide +kernel
theorem dX_swap_73 : decode bX_swap 73 = .ok (.invokevirtual 194, 3) := by decide +kernel
theorem dX_swap_76 : decode bX_swap 76 = .ok (.aload_n 0, 1) := by decide +kernel
theorem dX_swap_77 : decode bX_swap 77 = .ok (.getfield 59, 3) := by decide +kernel
theorem dX_swap_80 : decode bX_swap 80 = .ok (.aload_n 0, 1) := by decide +kernel
theorem dX_swap_81 : decode bX_swap 81 = .ok (.getfield 46, 3) := by decide +kernel
theorem dX_swap_84 : decode bX_swap 84 = .ok (.iload_n 3, 1) := by decide +kernel
theorem dX_swap_85 : decode bX_swap 85 = .ok (.iconst 1, 1) := by decide +kernel
theorem dX_swap_86 : decode bX_swap 86 = .ok (.isub, 1) := by decide +kernel
theorem dX_swap_87 : decode bX_swap 87 = .ok (.invokevirtual 197, 3) := by decide +kernel
theorem dX_swap_90 : decode bX_swap 90 = .ok (.ifCond .eq 21, 3) := by decide +kernel
theorem dX_swap_93 : decode bX_swap 93 = .ok (.aload_n 0, 1) := by decide +kernel
theorem dX_swap_94 : decode bX_swap 94 = .ok (.getfield 59, 3) := by decide +kernel
theorem dX_swap_97 : decode bX_swap 97 = .ok (.getfield 185, 3) := by decide +kernel
theorem dX_swap_100 : decode bX_swap 100 = .ok (.istore_n 3, 1) := by decide +kernel
theorem dX_swap_101 : decode bX_swap 101 = .ok (.bipush 16, 2) := by decide +kernel
theorem dX_swap_103 : decode bX_swap 103 = .ok (.iload 5, 2) := by decide +kernel
theorem dX_swap_105 : decode bX_swap 105 = .ok (.imul, 1) := by decide +kernel
theorem dX_swap_106 : decode bX_swap 106 = .ok (.iload 6, 2) := by decide +kernel
theorem dX_swap_108 : decode bX_swap 108 = .ok (.iadd, 1) := by decide +kernel
theorem dX_swap_109 : decode bX_swap 109 = .ok (.istore 4, 2) := by decide +kernel
theorem dX_swap_111 : decode bX_swap 111 = .ok (.aload_n 0, 1) := by decide +kernel
theorem dX_swap_112 : decode bX_swap 112 = .ok (.getfield 46, 3) := by decide +kernel
theorem dX_swap_115 : decode bX_swap 115 = .ok (.iload 5, 2) := by decide +kernel
theorem dX_swap_117 : decode bX_swap 117 = .ok (.iload 6, 2) := by decide +kernel
theorem dX_swap_119 : decode bX_swap 119 = .ok (.invokevirtual 194, 3) := by decide +kernel
theorem dX_swap_122 : decode bX_swap 122 = .ok (.iinc 6 1, 3) := by decide +kernel
theorem dX_swap_125 : decode bX_swap 125 = .ok (.goto (-72), 3) := by decide +kernel
theorem dX_swap_128 : decode bX_swap 128 = .ok (.iinc 5 1, 3) := by decide +kernel
theorem dX_swap_131 : decode bX_swap 131 = .ok (.goto (-96), 3) := by decide +kernel
theorem dX_swap_134 : decode bX_swap 134 = .ok (.iload 4, 2) := by decide +kernel
theorem dX_swap_136 : decode bX_swap 136 = .ok (.ireturn, 1) := by decide +kernel
theorem dX_later_0 : decode bX_later 0 = .ok (.aload_n 0, 1) := by decide +kernel
theorem dX_later_1 : decode bX_later 1 = .ok (.iload_n 1, 1) := by decide +kernel
theorem dX_later_2 : decode bX_later 2 = .ok (.invokevirtual 173, 3) := by decide +kernel
theorem dX_later_5 : decode bX_later 5 = .ok (.ifCond .eq 14, 3) := by decide +kernel
theorem dX_later_8 : decode bX_later 8 = .ok (.aload_n 0, 1) := by decide +kernel
theorem dX_later_9 : decode bX_later 9 = .ok (.getfield 19, 3) := by decide +kernel
theorem dX_later_12 : decode bX_later 12 = .ok (.iload_n 2, 1) := by decide +kernel
theorem dX_later_13 : decode bX_later 13 = .ok (.invokevirtual 94, 3) := by decide +kernel
theorem dX_later_16 : decode bX_later 16 = .ok (.ifCond .ne 6, 3) := by decide +kernel
theorem dX_later_19 : decode bX_later 19 = .ok (.bipush (-101), 2) := by decide +kernel
theorem dX_later_21 : decode bX_later 21 = .ok (.ireturn, 1) := by decide +kernel
theorem dX_later_22 : decode bX_later 22 = .ok (.aload_n 0, 1) := by decide +kernel
theorem dX_later_23 : decode bX_later 23 = .ok (.iload_n 1, 1) := by decide +kernel
theorem dX_later_24 : decode bX_later 24 = .ok (.iconst 3, 1) := by decide +kernel
theorem dX_later_25 : decode bX_later 25 = .ok (.invokevirtual 160, 3) := by decide +kernel
theorem dX_later_28 : decode bX_later 28 = .ok (.aload_n 0, 1) := by decide +kernel
theorem dX_later_29 : decode bX_later 29 = .ok (.getfield 46, 3) := by decide +kernel
theorem dX_later_32 : decode bX_later 32 = .ok (.iload_n 2, 1) := by decide +kernel
theorem dX_later_33 : decode bX_later 33 = .ok (.invokevirtual 201, 3) := by decide +kernel
theorem dX_later_36 : decode bX_later 36 = .ok (.aload_n 0, 1) := by decide +kernel
theorem dX_later_37 : decode bX_later 37 = .ok (.getfield 46, 3) := by decide +kernel
theorem dX_later_40 : decode bX_later 40 = .ok (.aload_n 0, 1) := by decide +kernel
theorem dX_later_41 : decode bX_later 41 = .ok (.getfield 46, 3) := by decide +kernel
theorem dX_later_44 : decode bX_later 44 = .ok (.getfield 164, 3) := by decide +kernel
theorem dX_later_47 : decode bX_later 47 = .ok (.iload_n 2, 1) := by decide +kernel
theorem dX_later_48 : decode bX_later 48 = .ok (.invokevirtual 205, 3) := by decide +kernel
theorem dX_later_51 : decode bX_later 51 = .ok (.aload_n 0, 1) := by decide +kernel
theorem dX_later_52 : decode bX_later 52 = .ok (.getfield 59, 3) := by decide +kernel
theorem dX_later_55 : decode bX_later 55 = .ok (.aload_n 0, 1) := by decide +kernel
theorem dX_later_56 : decode bX_later 56 = .ok (.getfield 10, 3) := by decide +kernel
theorem dX_later_59 : decode bX_later 59 = .ok (.iconst 3, 1) := by decide +kernel
theorem dX_later_60 : decode bX_later 60 = .ok (.invokevirtual 208, 3) := by decide +kernel
theorem dX_later_63 : decode bX_later 63 = .ok (.aload_n 0, 1) := by decide +kernel
theorem dX_later_64 : decode bX_later 64 = .ok (.getfield 59, 3) := by decide +kernel
theorem dX_later_67 : decode bX_later 67 = .ok (.aload_n 0, 1) := by decide +kernel
theorem dX_later_68 : decode bX_later 68 = .ok (.getfield 46, 3) := by decide +kernel
theorem dX_later_71 : decode bX_later 71 = .ok (.sipush 9999, 3) := by decide +kernel
theorem dX_later_74 : decode bX_later 74 = .ok (.invokevirtual 212, 3) := by decide +kernel
theorem dX_later_77 : decode bX_later 77 = .ok (.aload_n 0, 1) := by decide +kernel
theorem dX_later_78 : decode bX_later 78 = .ok (.getfield 59, 3) := by decide +kernel
theorem dX_later_81 : decode bX_later 81 = .ok (.getfield 185, 3) := by decide +kernel
theorem dX_later_84 : decode bX_later 84 = .ok (.ireturn, 1) := by decide +kernel
theorem dX_bound_0 : decode bX_bound 0 = .ok (.aload_n 0, 1) := by decide +kernel
theorem dX_bound_1 : decode bX_bound 1 = .ok (.iload_n 1, 1) := by decide +kernel
theorem dX_bound_2 : decode bX_bound 2 = .ok (.invokevirtual 156, 3) := by decide +kernel
theorem dX_bound_5 : decode bX_bound 5 = .ok (.istore_n 3, 1) := by decide +kernel
theorem dX_bound_6 : decode bX_bound 6 = .ok (.iload_n 3, 1) := by decide +kernel
theorem dX_bound_7 : decode bX_bound 7 = .ok (.ifCond .eq 5, 3) := by decide +kernel
theorem dX_bound_10 : decode bX_bound 10 = .ok (.iload_n 3, 1) := by decide +kernel
theorem dX_bound_11 : decode bX_bound 11 = .ok (.ireturn, 1) := by decide +kernel
theorem dX_bound_12 : decode bX_bound 12 = .ok (.iload_n 2, 1) := by decide +kernel
theorem dX_bound_13 : decode bX_bound 13 = .ok (.iconst 0, 1) := by decide +kernel
theorem dX_bound_14 : decode bX_bound 14 = .ok (.iconst 3, 1) := by decide +kernel
theorem dX_bound_15 : decode bX_bound 15 = .ok (.invokestatic 70, 3) := by decide +kernel
theorem dX_bound_18 : decode bX_bound 18 = .ok (.ifCond .eq 6, 3) := by decide +kernel
theorem dX_bound_21 : decode bX_bound 21 = .ok (.bipush (-102), 2) := by decide +kernel
theorem dX_bound_23 : decode bX_bound 23 = .ok (.ireturn, 1) := by decide +kernel
theorem dX_bound_24 : decode bX_bound 24 = .ok (.aload_n 0, 1) := by decide +kernel
theorem dX_bound_25 : decode bX_bound 25 = .ok (.iload_n 1, 1) := by decide +kernel
theorem dX_bound_26 : decode bX_bound 26 = .ok (.iload_n 2, 1) := by decide +kernel
theorem dX_bound_27 : decode bX_bound 27 = .ok (.sipush 9999, 3) := by decide +kernel
theorem dX_bound_30 : decode bX_bound 30 = .ok (.invokevirtual 168, 3) := by decide +kernel
theorem dX_bound_33 : decode bX_bound 33 = .ok (.aload_n 0, 1) := by decide +kernel
theorem dX_bound_34 : decode bX_bound 34 = .ok (.getfield 59, 3) := by decide +kernel
theorem dX_bound_37 : decode bX_bound 37 = .ok (.getfield 185, 3) := by decide +kernel
theorem dX_bound_40 : decode bX_bound 40 = .ok (.ireturn, 1) := by decide +kernel
theorem dX_doors_0 : decode bX_doors 0 = .ok (.aload_n 0, 1) := by decide +kernel
theorem dX_doors_1 : decode bX_doors 1 = .ok (.iload_n 1, 1) := by decide +kernel
theorem dX_doors_2 : decode bX_doors 2 = .ok (.invokevirtual 156, 3) := by decide +kernel
theorem dX_doors_5 : decode bX_doors 5 = .ok (.istore_n 2, 1) := by decide +kernel
theorem dX_doors_6 : decode bX_doors 6 = .ok (.iload_n 2, 1) := by decide +kernel
theorem dX_doors_7 : decode bX_doors 7 = .ok (.ifCond .eq 7, 3) := by decide +kernel
theorem dX_doors_10 : decode bX_doors 10 = .ok (.iload_n 2, 1) := by decide +kernel
theorem dX_doors_11 : decode bX_doors 11 = .ok (.goto 8, 3) := by decide +kernel
theorem dX_doors_14 : decode bX_doors 14 = .ok (.aload_n 0, 1) := by decide +kernel
theorem dX_doors_15 : decode bX_doors 15 = .ok (.iload_n 1, 1) := by decide +kernel
theorem dX_doors_16 : decode bX_doors 16 = .ok (.invokevirtual 216, 3) := by decide +kernel
theorem dX_doors_19 : decode bX_doors 19 = .ok (.ireturn, 1) := by decide +kernel
theorem dX_mixed_0 : decode bX_mixed 0 = .ok (.aload_n 0, 1) := by decide +kernel
theorem dX_mixed_1 : decode bX_mixed 1 = .ok (.getfield 10, 3) := by decide +kernel
theorem dX_mixed_4 : decode bX_mixed 4 = .ok (.invokevirtual 90, 3) := by decide +kernel
theorem dX_mixed_7 : decode bX_mixed 7 = .ok (.ifCond .eq 6, 3) := by decide +kernel
theorem dX_mixed_10 : decode bX_mixed 10 = .ok (.bipush (-103), 2) := by decide +kernel
theorem dX_mixed_12 : decode bX_mixed 12 = .ok (.ireturn, 1) := by decide +kernel
theorem dX_mixed_13 : decode bX_mixed 13 = .ok (.iload_n 1, 1) := by decide +kernel
theorem dX_mixed_14 : decode bX_mixed 14 = .ok (.iconst 1, 1) := by decide +kernel
theorem dX_mixed_15 : decode bX_mixed 15 = .ok (.bipush 9, 2) := by decide +kernel
theorem dX_mixed_17 : decode bX_mixed 17 = .ok (.invokestatic 70, 3) := by decide +kernel
theorem dX_mixed_20 : decode bX_mixed 20 = .ok (.ifCond .ne 16, 3) := by decide +kernel
theorem dX_mixed_23 : decode bX_mixed 23 = .ok (.iload_n 2, 1) := by decide +kernel
theorem dX_mixed_24 : decode bX_mixed 24 = .ok (.ifCond .lt 12, 3) := by decide +kernel
theorem dX_mixed_27 : decode bX_mixed 27 = .ok (.iload_n 3, 1) := by decide +kernel
theorem dX_mixed_28 : decode bX_mixed 28 = .ok (.iconst 0, 1) := by decide +kernel
theorem dX_mixed_29 : decode bX_mixed 29 = .ok (.iconst 2, 1) := by decide +kernel
theorem dX_mixed_30 : decode bX_mixed 30 = .ok (.invokestatic 70, 3) := by decide +kernel
theorem dX_mixed_33 : decode bX_mixed 33 = .ok (.ifCond .eq 6, 3) := by decide +kernel
theorem dX_mixed_36 : decode bX_mixed 36 = .ok (.bipush (-102), 2) := by decide +kernel
theorem dX_mixed_38 : decode bX_mixed 38 = .ok (.ireturn, 1) := by decide +kernel
theorem dX_mixed_39 : decode bX_mixed 39 = .ok (.aload_n 0, 1) := by decide +kernel
theorem dX_mixed_40 : decode bX_mixed 40 = .ok (.getfield 59, 3) := by decide +kernel
theorem dX_mixed_43 : decode bX_mixed 43 = .ok (.aload_n 0, 1) := by decide +kernel
theorem dX_mixed_44 : decode bX_mixed 44 = .ok (.getfield 10, 3) := by decide +kernel
theorem dX_mixed_47 : decode bX_mixed 47 = .ok (.iconst 3, 1) := by decide +kernel
theorem dX_mixed_48 : decode bX_mixed 48 = .ok (.invokevirtual 208, 3) := by decide +kernel
theorem dX_mixed_51 : decode bX_mixed 51 = .ok (.sipush 9999, 3) := by decide +kernel
theorem dX_mixed_54 : decode bX_mixed 54 = .ok (.istore 4, 2) := by decide +kernel
theorem dX_mixed_56 : decode bX_mixed 56 = .ok (.iconst 0, 1) := by decide +kernel
theorem dX_mixed_57 : decode bX_mixed 57 = .ok (.istore 5, 2) := by decide +kernel
theorem dX_mixed_59 : decode bX_mixed 59 = .ok (.iload_n 2, 1) := by decide +kernel
theorem dX_mixed_60 : decode bX_mixed 60 = .ok (.istore 6, 2) := by decide +kernel
theorem dX_mixed_62 : decode bX_mixed 62 = .ok (.iconst 0, 1) := by decide +kernel
theorem dX_mixed_63 : decode bX_mixed 63 = .ok (.istore 7, 2) := by decide +kernel
theorem dX_mixed_65 : decode bX_mixed 65 = .ok (.iload 7, 2) := by decide +kernel
theorem dX_mixed_67 : decode bX_mixed 67 = .ok (.iload_n 1, 1) := by decide +kernel
theorem dX_mixed_68 : decode bX_mixed 68 = .ok (.if_icmp .ge 76, 3) := by decide +kernel
theorem dX_mixed_71 : decode bX_mixed 71 = .ok (.aload_n 0, 1) := by decide +kernel
theorem dX_mixed_72 : decode bX_mixed 72 = .ok (.getfield 46, 3) := by decide +kernel
theorem dX_mixed_75 : decode bX_mixed 75 = .ok (.aload_n 0, 1) := by decide +kernel
theorem dX_mixed_76 : decode bX_mixed 76 = .ok (.getfield 19, 3) := by decide +kernel
theorem dX_mixed_79 : decode bX_mixed 79 = .ok (.getfield 78, 3) := by decide +kernel
theorem dX_mixed_82 : decode bX_mixed 82 = .ok (.invokevirtual 219, 3) := by decide +kernel
theorem dX_mixed_85 : decode bX_mixed 85 = .ok (.aload_n 0, 1) := by decide +kernel
theorem dX_mixed_86 : decode bX_mixed 86 = .ok (.getfield 46, 3) := by decide +kernel
theorem dX_mixed_89 : decode bX_mixed 89 = .ok (.iload 6, 2) := by decide +kernel
theorem dX_mixed_91 : decode bX_mixed 91 = .ok (.invokevirtual 222, 3) := by decide +kernel
theorem dX_mixed_94 : decode bX_mixed 94 = .ok (.istore 6, 2) := by decide +kernel
theorem dX_mixed_96 : decode bX_mixed 96 = .ok (.aload_n 0, 1) := by decide +kernel
theorem dX_mixed_97 : decode bX_mixed 97 = .ok (.getfield 59, 3) := by decide +kernel
theorem dX_mixed_100 : decode bX_mixed 100 = .ok (.aload_n 0, 1) := by decide +kernel
theorem dX_mixed_101 : decode bX_mixed 101 = .ok (.getfield 46, 3) := by decide +kernel
theorem dX_mixed_104 : decode bX_mixed 104 = .ok (.sipush 9999, 3) := by decide +kernel
theorem dX_mixed_107 : decode bX_mixed 107 = .ok (.invokevirtual 212, 3) := by decide +kernel
theorem dX_mixed_110 : decode bX_mixed 110 = .ok (.iload 4, 2) := by decide +kernel
theorem dX_mixed_112 : decode bX_mixed 112 = .ok (.aload_n 0, 1) := by decide +kernel
theorem dX_mixed_113 : decode bX_mixed 113 = .ok (.getfield 59, 3) := by decide +kernel
theorem dX_mixed_116 : decode bX_mixed 116 = .ok (.getfield 185, 3) := by decide +kernel
theorem dX_mixed_119 : decode bX_mixed 119 = .ok (.invokestatic 225, 3) := by decide +kernel
theorem dX_mixed_122 : decode bX_mixed 122 = .ok (.istore 4, 2) := by decide +kernel
theorem dX_mixed_124 : decode bX_mixed 124 = .ok (.iload 5, 2) := by decide +kernel
theorem dX_mixed_126 : decode bX_mixed 126 = .ok (.aload_n 0, 1) := by decide +kernel
theorem dX_mixed_127 : decode bX_mixed 127 = .ok (.getfield 59, 3) := by decide +kernel
theorem dX_mixed_130 : decode bX_mixed 130 = .ok (.getfield 185, 3) := by decide +kernel
theorem dX_mixed_133 : decode bX_mixed 133 = .ok (.invokestatic 230, 3) := by decide +kernel
theorem dX_mixed_136 : decode bX_mixed 136 = .ok (.istore 5, 2) := by decide +kernel
theorem dX_mixed_138 : decode bX_mixed 138 = .ok (.iinc 7 1, 3) := by decide +kernel
theorem dX_mixed_141 : decode bX_mixed 141 = .ok (.goto (-76), 3) := by decide +kernel
theorem dX_mixed_144 : decode bX_mixed 144 = .ok (.iload_n 3, 1) := by decide +kernel
theorem dX_mixed_145 : decode bX_mixed 145 = .ok (.ifCond .ne 6, 3) := by decide +kernel
theorem dX_mixed_148 : decode bX_mixed 148 = .ok (.iload 4, 2) := by decide +kernel
theorem dX_mixed_150 : decode bX_mixed 150 = .ok (.ireturn, 1) := by decide +kernel
theorem dX_mixed_151 : decode bX_mixed 151 = .ok (.iload_n 3, 1) := by decide +kernel
theorem dX_mixed_152 : decode bX_mixed 152 = .ok (.iconst 1, 1) := by decide +kernel
theorem dX_mixed_153 : decode bX_mixed 153 = .ok (.if_icmp .ne 8, 3) := by decide +kernel
theorem dX_mixed_156 : decode bX_mixed 156 = .ok (.iload 5, 2) := by decide +kernel
theorem dX_mixed_158 : decode bX_mixed 158 = .ok (.goto 5, 3) := by decide +kernel
theorem dX_mixed_161 : decode bX_mixed 161 = .ok (.iload 6, 2) := by decide +kernel
theorem dX_mixed_163 : decode bX_mixed 163 = .ok (.ireturn, 1) := by decide +kernel
theorem dX_out_0 : decode bX_out 0 = .ok (.aload_n 0, 1) := by decide +kernel
theorem dX_out_1 : decode bX_out 1 = .ok (.getfield 10, 3) := by decide +kernel
theorem dX_out_4 : decode bX_out 4 = .ok (.invokevirtual 90, 3) := by decide +kernel
theorem dX_out_7 : decode bX_out 7 = .ok (.ifCond .eq 6, 3) := by decide +kernel
theorem dX_out_10 : decode bX_out 10 = .ok (.bipush (-103), 2) := by decide +kernel
theorem dX_out_12 : decode bX_out 12 = .ok (.ireturn, 1) := by decide +kernel
theorem dX_out_13 : decode bX_out 13 = .ok (.iload_n 1, 1) := by decide +kernel
theorem dX_out_14 : decode bX_out 14 = .ok (.iconst 0, 1) := by decide +kernel
theorem dX_out_15 : decode bX_out 15 = .ok (.iconst 2, 1) := by decide +kernel
theorem dX_out_16 : decode bX_out 16 = .ok (.invokestatic 70, 3) := by decide +kernel
theorem dX_out_19 : decode bX_out 19 = .ok (.ifCond .eq 6, 3) := by decide +kernel
theorem dX_out_22 : decode bX_out 22 = .ok (.bipush (-102), 2) := by decide +kernel
theorem dX_out_24 : decode bX_out 24 = .ok (.ireturn, 1) := by decide +kernel
theorem dX_out_25 : decode bX_out 25 = .ok (.aload_n 0, 1) := by decide +kernel
theorem dX_out_26 : decode bX_out 26 = .ok (.getfield 66, 3) := by decide +kernel
theorem dX_out_29 : decode bX_out 29 = .ok (.aload_n 0, 1) := by decide +kernel
theorem dX_out_30 : decode bX_out 30 = .ok (.getfield 10, 3) := by decide +kernel
theorem dX_out_33 : decode bX_out 33 = .ok (.getfield 179, 3) := by decide +kernel
theorem dX_out_36 : decode bX_out 36 = .ok (.iload_n 1, 1) := by decide +kernel
theorem dX_out_37 : decode bX_out 37 = .ok (.invokevirtual 233, 3) := by decide +kernel
theorem dX_out_40 : decode bX_out 40 = .ok (.aload_n 0, 1) := by decide +kernel
theorem dX_out_41 : decode bX_out 41 = .ok (.getfield 66, 3) := by decide +kernel
theorem dX_out_44 : decode bX_out 44 = .ok (.getfield 235, 3) := by decide +kernel
theorem dX_out_47 : decode bX_out 47 = .ok (.ireturn, 1) := by decide +kernel
theorem dX_outOf_0 : decode bX_outOf 0 = .ok (.aload_n 0, 1) := by decide +kernel
theorem dX_outOf_1 : decode bX_outOf 1 = .ok (.getfield 19, 3) := by decide +kernel
theorem dX_outOf_4 : decode bX_outOf 4 = .ok (.iload_n 1, 1) := by decide +kernel
theorem dX_outOf_5 : decode bX_outOf 5 = .ok (.invokevirtual 94, 3) := by decide +kernel
theorem dX_outOf_8 : decode bX_outOf 8 = .ok (.ifCond .ne 6, 3) := by decide +kernel
theorem dX_outOf_11 : decode bX_outOf 11 = .ok (.bipush (-101), 2) := by decide +kernel
theorem dX_outOf_13 : decode bX_outOf 13 = .ok (.ireturn, 1) := by decide +kernel
theorem dX_outOf_14 : decode bX_outOf 14 = .ok (.iload_n 2, 1) := by decide +kernel
theorem dX_outOf_15 : decode bX_outOf 15 = .ok (.iconst 0, 1) := by decide +kernel
theorem dX_outOf_16 : decode bX_outOf 16 = .ok (.iconst 2, 1) := by decide +kernel
theorem dX_outOf_17 : decode bX_outOf 17 = .ok (.invokestatic 70, 3) := by decide +kernel
theorem dX_outOf_20 : decode bX_outOf 20 = .ok (.ifCond .eq 6, 3) := by decide +kernel
theorem dX_outOf_23 : decode bX_outOf 23 = .ok (.bipush (-102), 2) := by decide +kernel
theorem dX_outOf_25 : decode bX_outOf 25 = .ok (.ireturn, 1) := by decide +kernel
theorem dX_outOf_26 : decode bX_outOf 26 = .ok (.aload_n 0, 1) := by decide +kernel
theorem dX_outOf_27 : decode bX_outOf 27 = .ok (.getfield 66, 3) := by decide +kernel
theorem dX_outOf_30 : decode bX_outOf 30 = .ok (.aload_n 0, 1) := by decide +kernel
theorem dX_outOf_31 : decode bX_outOf 31 = .ok (.getfield 10, 3) := by decide +kernel
theorem dX_outOf_34 : decode bX_outOf 34 = .ok (.getfield 179, 3) := by decide +kernel
theorem dX_outOf_37 : decode bX_outOf 37 = .ok (.iload_n 2, 1) := by decide +kernel
theorem dX_outOf_38 : decode bX_outOf 38 = .ok (.invokevirtual 233, 3) := by decide +kernel
theorem dX_outOf_41 : decode bX_outOf 41 = .ok (.aload_n 0, 1) := by decide +kernel
theorem dX_outOf_42 : decode bX_outOf 42 = .ok (.getfield 66, 3) := by decide +kernel
theorem dX_outOf_45 : decode bX_outOf 45 = .ok (.getfield 236, 3) := by decide +kernel
theorem dX_outOf_48 : decode bX_outOf 48 = .ok (.iload_n 1, 1) := by decide +kernel
theorem dX_outOf_49 : decode bX_outOf 49 = .ok (.iaload, 1) := by decide +kernel
theorem dX_outOf_50 : decode bX_outOf 50 = .ok (.ireturn, 1) := by decide +kernel
theorem dX_missed_0 : decode bX_missed 0 = .ok (.aload_n 0, 1) := by decide +kernel
theorem dX_missed_1 : decode bX_missed 1 = .ok (.getfield 10, 3) := by decide +kernel
theorem dX_missed_4 : decode bX_missed 4 = .ok (.invokevirtual 90, 3) := by decide +kernel
theorem dX_missed_7 : decode bX_missed 7 = .ok (.ifCond .eq 6, 3) := by decide +kernel
theorem dX_missed_10 : decode bX_missed 10 = .ok (.bipush (-103), 2) := by decide +kernel
theorem dX_missed_12 : decode bX_missed 12 = .ok (.ireturn, 1) := by decide +kernel
theorem dX_missed_13 : decode bX_missed 13 = .ok (.iload_n 1, 1) := by decide +kernel
theorem dX_missed_14 : decode bX_missed 14 = .ok (.iconst 0, 1) := by decide +kernel
theorem dX_missed_15 : decode bX_missed 15 = .ok (.iconst 2, 1) := by decide +kernel
theorem dX_missed_16 : decode bX_missed 16 = .ok (.invokestatic 70, 3) := by decide +kernel
theorem dX_missed_19 : decode bX_missed 19 = .ok (.ifCond .eq 6, 3) := by decide +kernel
theorem dX_missed_22 : decode bX_missed 22 = .ok (.bipush (-102), 2) := by decide +kernel
theorem dX_missed_24 : decode bX_missed 24 = .ok (.ireturn, 1) := by decide +kernel
theorem dX_missed_25 : decode bX_missed 25 = .ok (.aload_n 0, 1) := by decide +kernel
theorem dX_missed_26 : decode bX_missed 26 = .ok (.getfield 66, 3) := by decide +kernel
theorem dX_missed_29 : decode bX_missed 29 = .ok (.aload_n 0, 1) := by decide +kernel
theorem dX_missed_30 : decode bX_missed 30 = .ok (.getfield 10, 3) := by decide +kernel
theorem dX_missed_33 : decode bX_missed 33 = .ok (.getfield 179, 3) := by decide +kernel
theorem dX_missed_36 : decode bX_missed 36 = .ok (.iload_n 1, 1) := by decide +kernel
theorem dX_missed_37 : decode bX_missed 37 = .ok (.invokevirtual 233, 3) := by decide +kernel
theorem dX_missed_40 : decode bX_missed 40 = .ok (.iconst 0, 1) := by decide +kernel
theorem dX_missed_41 : decode bX_missed 41 = .ok (.istore_n 2, 1) := by decide +kernel
theorem dX_missed_42 : decode bX_missed 42 = .ok (.iconst 0, 1) := by decide +kernel
theorem dX_missed_43 : decode bX_missed 43 = .ok (.istore_n 3, 1) := by decide +kernel
theorem dX_missed_44 : decode bX_missed 44 = .ok (.iload_n 3, 1) := by decide +kernel
theorem dX_missed_45 : decode bX_missed 45 = .ok (.aload_n 0, 1) := by decide +kernel
theorem dX_missed_46 : decode bX_missed 46 = .ok (.getfield 19, 3) := by decide +kernel
theorem dX_missed_49 : decode bX_missed 49 = .ok (.getfield 78, 3) := by decide +kernel
theorem dX_missed_52 : decode bX_missed 52 = .ok (.if_icmp .ge 36, 3) := by decide +kernel
theorem dX_missed_55 : decode bX_missed 55 = .ok (.aload_n 0, 1) := by decide +kernel
theorem dX_missed_56 : decode bX_missed 56 = .ok (.getfield 66, 3) := by decide +kernel
theorem dX_missed_59 : decode bX_missed 59 = .ok (.getfield 236, 3) := by decide +kernel
theorem dX_missed_62 : decode bX_missed 62 = .ok (.iload_n 3, 1) := by decide +kernel
theorem dX_missed_63 : decode bX_missed 63 = .ok (.iaload, 1) := by decide +kernel
theorem dX_missed_64 : decode bX_missed 64 = .ok (.aload_n 0, 1) := by decide +kernel
theorem dX_missed_65 : decode bX_missed 65 = .ok (.getfield 19, 3) := by decide +kernel
theorem dX_missed_68 : decode bX_missed 68 = .ok (.getfield 123, 3) := by decide +kernel
theorem dX_missed_71 : decode bX_missed 71 = .ok (.iload_n 3, 1) := by decide +kernel
theorem dX_missed_72 : decode bX_missed 72 = .ok (.iaload, 1) := by decide +kernel
theorem dX_missed_73 : decode bX_missed 73 = .ok (.if_icmp .le 9, 3) := by decide +kernel
theorem dX_missed_76 : decode bX_missed 76 = .ok (.iload_n 2, 1) := by decide +kernel
theorem dX_missed_77 : decode bX_missed 77 = .ok (.iconst 1, 1) := by decide +kernel
theorem dX_missed_78 : decode bX_missed 78 = .ok (.iload_n 3, 1) := by decide +kernel
theorem dX_missed_79 : decode bX_missed 79 = .ok (.ishl, 1) := by decide +kernel
theorem dX_missed_80 : decode bX_missed 80 = .ok (.ior, 1) := by decide +kernel
theorem dX_missed_81 : decode bX_missed 81 = .ok (.istore_n 2, 1) := by decide +kernel
theorem dX_missed_82 : decode bX_missed 82 = .ok (.iinc 3 1, 3) := by decide +kernel
theorem dX_missed_85 : decode bX_missed 85 = .ok (.goto (-41), 3) := by decide +kernel
theorem dX_missed_88 : decode bX_missed 88 = .ok (.iload_n 2, 1) := by decide +kernel
theorem dX_missed_89 : decode bX_missed 89 = .ok (.ireturn, 1) := by decide +kernel
theorem dX_stay_0 : decode bX_stay 0 = .ok (.iload_n 1, 1) := by decide +kernel
theorem dX_stay_1 : decode bX_stay 1 = .ok (.iconst 1, 1) := by decide +kernel
theorem dX_stay_2 : decode bX_stay 2 = .ok (.bipush 12, 2) := by decide +kernel
theorem dX_stay_4 : decode bX_stay 4 = .ok (.invokestatic 70, 3) := by decide +kernel
theorem dX_stay_7 : decode bX_stay 7 = .ok (.ifCond .ne 22, 3) := by decide +kernel
theorem dX_stay_10 : decode bX_stay 10 = .ok (.iload_n 2, 1) := by decide +kernel
theorem dX_stay_11 : decode bX_stay 11 = .ok (.iconst 1, 1) := by decide +kernel
theorem dX_stay_12 : decode bX_stay 12 = .ok (.bipush 99, 2) := by decide +kernel
theorem dX_stay_14 : decode bX_stay 14 = .ok (.invokestatic 70, 3) := by decide +kernel
theorem dX_stay_17 : decode bX_stay 17 = .ok (.ifCond .ne 12, 3) := by decide +kernel
theorem dX_stay_20 : decode bX_stay 20 = .ok (.iload_n 3, 1) := by decide +kernel
theorem dX_stay_21 : decode bX_stay 21 = .ok (.iconst 0, 1) := by decide +kernel
theorem dX_stay_22 : decode bX_stay 22 = .ok (.iconst 1, 1) := by decide +kernel
theorem dX_stay_23 : decode bX_stay 23 = .ok (.invokestatic 70, 3) := by decide +kernel
theorem dX_stay_26 : decode bX_stay 26 = .ok (.ifCond .eq 6, 3) := by decide +kernel
theorem dX_stay_29 : decode bX_stay 29 = .ok (.bipush (-102), 2) := by decide +kernel
theorem dX_stay_31 : decode bX_stay 31 = .ok (.ireturn, 1) := by decide +kernel
theorem dX_stay_32 : decode bX_stay 32 = .ok (.aload_n 0, 1) := by decide +kernel
theorem dX_stay_33 : decode bX_stay 33 = .ok (.getfield 19, 3) := by decide +kernel
theorem dX_stay_36 : decode bX_stay 36 = .ok (.getfield 78, 3) := by decide +kernel
theorem dX_stay_39 : decode bX_stay 39 = .ok (.iload_n 1, 1) := by decide +kernel
theorem dX_stay_40 : decode bX_stay 40 = .ok (.if_icmp .ge 5, 3) := by decide +kernel
theorem dX_stay_43 : decode bX_stay 43 = .ok (.iconst (-1), 1) := by decide +kernel
theorem dX_stay_44 : decode bX_stay 44 = .ok (.ireturn, 1) := by decide +kernel
theorem dX_stay_45 : decode bX_stay 45 = .ok (.iconst 0, 1) := by decide +kernel
theorem dX_stay_46 : decode bX_stay 46 = .ok (.istore 4, 2) := by decide +kernel
theorem dX_stay_48 : decode bX_stay 48 = .ok (.iload 4, 2) := by decide +kernel
theorem dX_stay_50 : decode bX_stay 50 = .ok (.sipush 999, 3) := by decide +kernel
theorem dX_stay_53 : decode bX_stay 53 = .ok (.if_icmp .ge 25, 3) := by decide +kernel
theorem dX_stay_56 : decode bX_stay 56 = .ok (.aload_n 0, 1) := by decide +kernel
theorem dX_stay_57 : decode bX_stay 57 = .ok (.getfield 19, 3) := by decide +kernel
theorem dX_stay_60 : decode bX_stay 60 = .ok (.iload 4, 2) := by decide +kernel
theorem dX_stay_62 : decode bX_stay 62 = .ok (.invokevirtual 239, 3) := by decide +kernel
theorem dX_stay_65 : decode bX_stay 65 = .ok (.iload_n 1, 1) := by decide +kernel
theorem dX_stay_66 : decode bX_stay 66 = .ok (.if_icmp .ge 12, 3) := by decide +kernel
theorem dX_stay_69 : decode bX_stay 69 = .ok (.iload 4, 2) := by decide +kernel
theorem dX_stay_71 : decode bX_stay 71 = .ok (.iload_n 2, 1) := by decide +kernel
theorem dX_stay_72 : decode bX_stay 72 = .ok (.iadd, 1) := by decide +kernel
theorem dX_stay_73 : decode bX_stay 73 = .ok (.istore 4, 2) := by decide +kernel
theorem dX_stay_75 : decode bX_stay 75 = .ok (.goto (-27), 3) := by decide +kernel
theorem dX_stay_78 : decode bX_stay 78 = .ok (.iload_n 3, 1) := by decide +kernel
theorem dX_stay_79 : decode bX_stay 79 = .ok (.ifCond .ne 8, 3) := by decide +kernel
theorem dX_stay_82 : decode bX_stay 82 = .ok (.iload 4, 2) := by decide +kernel
theorem dX_stay_84 : decode bX_stay 84 = .ok (.goto 7, 3) := by decide +kernel
theorem dX_stay_87 : decode bX_stay 87 = .ok (.iload 4, 2) := by decide +kernel
theorem dX_stay_89 : decode bX_stay 89 = .ok (.iload_n 1, 1) := by decide +kernel
theorem dX_stay_90 : decode bX_stay 90 = .ok (.imul, 1) := by decide +kernel
theorem dX_stay_91 : decode bX_stay 91 = .ok (.ireturn, 1) := by decide +kernel
theorem dX_image_0 : decode bX_image 0 = .ok (.aload_n 0, 1) := by decide +kernel
theorem dX_image_1 : decode bX_image 1 = .ok (.getfield 10, 3) := by decide +kernel
theorem dX_image_4 : decode bX_image 4 = .ok (.invokevirtual 90, 3) := by decide +kernel
theorem dX_image_7 : decode bX_image 7 = .ok (.ifCond .eq 6, 3) := by decide +kernel
theorem dX_image_10 : decode bX_image 10 = .ok (.bipush (-103), 2) := by decide +kernel
theorem dX_image_12 : decode bX_image 12 = .ok (.ireturn, 1) := by decide +kernel
theorem dX_image_13 : decode bX_image 13 = .ok (.aload_n 0, 1) := by decide +kernel
theorem dX_image_14 : decode bX_image 14 = .ok (.getfield 26, 3) := by decide +kernel
theorem dX_image_17 : decode bX_image 17 = .ok (.aload_n 0, 1) := by decide +kernel
theorem dX_image_18 : decode bX_image 18 = .ok (.getfield 19, 3) := by decide +kernel
theorem dX_image_21 : decode bX_image 21 = .ok (.invokevirtual 242, 3) := by decide +kernel
theorem dX_image_24 : decode bX_image 24 = .ok (.aload_n 0, 1) := by decide +kernel
theorem dX_image_25 : decode bX_image 25 = .ok (.getfield 19, 3) := by decide +kernel
theorem dX_image_28 : decode bX_image 28 = .ok (.getfield 78, 3) := by decide +kernel
theorem dX_image_31 : decode bX_image 31 = .ok (.ireturn, 1) := by decide +kernel
theorem dX_restore_0 : decode bX_restore 0 = .ok (.aload_n 0, 1) := by decide +kernel
theorem dX_restore_1 : decode bX_restore 1 = .ok (.getfield 26, 3) := by decide +kernel
theorem dX_restore_4 : decode bX_restore 4 = .ok (.getfield 82, 3) := by decide +kernel
theorem dX_restore_7 : decode bX_restore 7 = .ok (.ifCond .ne 6, 3) := by decide +kernel
theorem dX_restore_10 : decode bX_restore 10 = .ok (.bipush (-103), 2) := by decide +kernel
theorem dX_restore_12 : decode bX_restore 12 = .ok (.ireturn, 1) := by decide +kernel
theorem dX_restore_13 : decode bX_restore 13 = .ok (.aload_n 0, 1) := by decide +kernel
theorem dX_restore_14 : decode bX_restore 14 = .ok (.getfield 26, 3) := by decide +kernel
theorem dX_restore_17 : decode bX_restore 17 = .ok (.aload_n 0, 1) := by decide +kernel
theorem dX_restore_18 : decode bX_restore 18 = .ok (.getfield 19, 3) := by decide +kernel
theorem dX_restore_21 : decode bX_restore 21 = .ok (.invokevirtual 245, 3) := by decide +kernel
theorem dX_restore_24 : decode bX_restore 24 = .ok (.aload_n 0, 1) := by decide +kernel
theorem dX_restore_25 : decode bX_restore 25 = .ok (.getfield 19, 3) := by decide +kernel
theorem dX_restore_28 : decode bX_restore 28 = .ok (.getfield 78, 3) := by decide +kernel
theorem dX_restore_31 : decode bX_restore 31 = .ok (.ireturn, 1) := by decide +kernel
theorem dX_count_0 : decode bX_count 0 = .ok (.iload_n 1, 1) := by decide +kernel
theorem dX_count_1 : decode bX_count 1 = .ok (.tableswitch 117 0 8 #[51, 59, 67, 75, 83, 88, 96, 104, 109], 51) := by decide +kernel
theorem dX_count_52 : decode bX_count 52 = .ok (.aload_n 0, 1) := by decide +kernel
theorem dX_count_53 : decode bX_count 53 = .ok (.getfield 10, 3) := by decide +kernel
theorem dX_count_56 : decode bX_count 56 = .ok (.getfield 179, 3) := by decide +kernel
theorem dX_count_59 : decode bX_count 59 = .ok (.ireturn, 1) := by decide +kernel
theorem dX_count_60 : decode bX_count 60 = .ok (.aload_n 0, 1) := by decide +kernel
theorem dX_count_61 : decode bX_count 61 = .ok (.getfield 10, 3) := by decide +kernel
theorem dX_count_64 : decode bX_count 64 = .ok (.invokevirtual 86, 3) := by decide +kernel
theorem dX_count_67 : decode bX_count 67 = .ok (.ireturn, 1) := by decide +kernel
theorem dX_count_68 : decode bX_count 68 = .ok (.aload_n 0, 1) := by decide +kernel
theorem dX_count_69 : decode bX_count 69 = .ok (.getfield 10, 3) := by decide +kernel
theorem dX_count_72 : decode bX_count 72 = .ok (.getfield 248, 3) := by decide +kernel
theorem dX_count_75 : decode bX_count 75 = .ok (.ireturn, 1) := by decide +kernel
theorem dX_count_76 : decode bX_count 76 = .ok (.aload_n 0, 1) := by decide +kernel
theorem dX_count_77 : decode bX_count 77 = .ok (.getfield 19, 3) := by decide +kernel
theorem dX_count_80 : decode bX_count 80 = .ok (.getfield 78, 3) := by decide +kernel
theorem dX_count_83 : decode bX_count 83 = .ok (.ireturn, 1) := by decide +kernel
theorem dX_count_84 : decode bX_count 84 = .ok (.aload_n 0, 1) := by decide +kernel
theorem dX_count_85 : decode bX_count 85 = .ok (.getfield 149, 3) := by decide +kernel
theorem dX_count_88 : decode bX_count 88 = .ok (.ireturn, 1) := by decide +kernel
theorem dX_count_89 : decode bX_count 89 = .ok (.aload_n 0, 1) := by decide +kernel
theorem dX_count_90 : decode bX_count 90 = .ok (.getfield 33, 3) := by decide +kernel
theorem dX_count_93 : decode bX_count 93 = .ok (.getfield 138, 3) := by decide +kernel
theorem dX_count_96 : decode bX_count 96 = .ok (.ireturn, 1) := by decide +kernel
theorem dX_count_97 : decode bX_count 97 = .ok (.aload_n 0, 1) := by decide +kernel
theorem dX_count_98 : decode bX_count 98 = .ok (.getfield 10, 3) := by decide +kernel
theorem dX_count_101 : decode bX_count 101 = .ok (.getfield 251, 3) := by decide +kernel
theorem dX_count_104 : decode bX_count 104 = .ok (.ireturn, 1) := by decide +kernel
theorem dX_count_105 : decode bX_count 105 = .ok (.aload_n 0, 1) := by decide +kernel
theorem dX_count_106 : decode bX_count 106 = .ok (.getfield 188, 3) := by decide +kernel
theorem dX_count_109 : decode bX_count 109 = .ok (.ireturn, 1) := by decide +kernel
theorem dX_count_110 : decode bX_count 110 = .ok (.aload_n 0, 1) := by decide +kernel
theorem dX_count_111 : decode bX_count 111 = .ok (.getfield 19, 3) := by decide +kernel
theorem dX_count_114 : decode bX_count 114 = .ok (.invokevirtual 254, 3) := by decide +kernel
theorem dX_count_117 : decode bX_count 117 = .ok (.ireturn, 1) := by decide +kernel
theorem dX_count_118 : decode bX_count 118 = .ok (.bipush (-102), 2) := by decide +kernel
theorem dX_count_120 : decode bX_count 120 = .ok (.ireturn, 1) := by decide +kernel
theorem dX_digest_0 : decode bX_digest 0 = .ok (.ldc2_w 257, 3) := by decide +kernel
theorem dX_digest_3 : decode bX_digest 3 = .ok (.lstore_n 1, 1) := by decide +kernel
theorem dX_digest_4 : decode bX_digest 4 = .ok (.iconst 0, 1) := by decide +kernel
theorem dX_digest_5 : decode bX_digest 5 = .ok (.istore_n 3, 1) := by decide +kernel
theorem dX_digest_6 : decode bX_digest 6 = .ok (.iload_n 3, 1) := by decide +kernel
theorem dX_digest_7 : decode bX_digest 7 = .ok (.aload_n 0, 1) := by decide +kernel
theorem dX_digest_8 : decode bX_digest 8 = .ok (.getfield 19, 3) := by decide +kernel
theorem dX_digest_11 : decode bX_digest 11 = .ok (.getfield 78, 3) := by decide +kernel
theorem dX_digest_14 : decode bX_digest 14 = .ok (.if_icmp .ge 43, 3) := by decide +kernel
theorem dX_digest_17 : decode bX_digest 17 = .ok (.iconst 0, 1) := by decide +kernel
theorem dX_digest_18 : decode bX_digest 18 = .ok (.istore 4, 2) := by decide +kernel
theorem dX_digest_20 : decode bX_digest 20 = .ok (.iload 4, 2) := by decide +kernel
theorem dX_digest_22 : decode bX_digest 22 = .ok (.bipush 6, 2) := by decide +kernel
theorem dX_digest_24 : decode bX_digest 24 = .ok (.if_icmp .gt 27, 3) := by decide +kernel
theorem dX_digest_27 : decode bX_digest 27 = .ok (.ldc2_w 259, 3) := by decide +kernel
theorem dX_digest_30 : decode bX_digest 30 = .ok (.lload_n 1, 1) := by decide +kernel
theorem dX_digest_31 : decode bX_digest 31 = .ok (.lmul, 1) := by decide +kernel
theorem dX_digest_32 : decode bX_digest 32 = .ok (.aload_n 0, 1) := by decide +kernel
theorem dX_digest_33 : decode bX_digest 33 = .ok (.getfield 19, 3) := by decide +kernel
theorem dX_digest_36 : decode bX_digest 36 = .ok (.iload_n 3, 1) := by decide +kernel
theorem dX_digest_37 : decode bX_digest 37 = .ok (.iload 4, 2) := by decide +kernel
theorem dX_digest_39 : decode bX_digest 39 = .ok (.invokevirtual 130, 3) := by decide +kernel
theorem dX_digest_42 : decode bX_digest 42 = .ok (.i2l, 1) := by decide +kernel
theorem dX_digest_43 : decode bX_digest 43 = .ok (.ladd, 1) := by decide +kernel
theorem dX_digest_44 : decode bX_digest 44 = .ok (.lstore_n 1, 1) := by decide +kernel
theorem dX_digest_45 : decode bX_digest 45 = .ok (.iinc 4 1, 3) := by decide +kernel
theorem dX_digest_48 : decode bX_digest 48 = .ok (.goto (-28), 3) := by decide +kernel
theorem dX_digest_51 : decode bX_digest 51 = .ok (.iinc 3 1, 3) := by decide +kernel
theorem dX_digest_54 : decode bX_digest 54 = .ok (.goto (-48), 3) := by decide +kernel
theorem dX_digest_57 : decode bX_digest 57 = .ok (.aload_n 0, 1) := by decide +kernel
theorem dX_digest_58 : decode bX_digest 58 = .ok (.getfield 10, 3) := by decide +kernel
theorem dX_digest_61 : decode bX_digest 61 = .ok (.invokevirtual 90, 3) := by decide +kernel
theorem dX_digest_64 : decode bX_digest 64 = .ok (.ifCond .ne 92, 3) := by decide +kernel
theorem dX_digest_67 : decode bX_digest 67 = .ok (.iconst 0, 1) := by decide +kernel
theorem dX_digest_68 : decode bX_digest 68 = .ok (.istore_n 3, 1) := by decide +kernel
theorem dX_digest_69 : decode bX_digest 69 = .ok (.iload_n 3, 1) := by decide +kernel
theorem dX_digest_70 : decode bX_digest 70 = .ok (.aload_n 0, 1) := by decide +kernel
theorem dX_digest_71 : decode bX_digest 71 = .ok (.getfield 149, 3) := by decide +kernel
theorem dX_digest_74 : decode bX_digest 74 = .ok (.if_icmp .ge 16, 3) := by decide +kernel
theorem dX_digest_77 : decode bX_digest 77 = .ok (.aload_n 0, 1) := by decide +kernel
theorem dX_digest_78 : decode bX_digest 78 = .ok (.lload_n 1, 1) := by decide +kernel
theorem dX_digest_79 : decode bX_digest 79 = .ok (.iload_n 3, 1) := by decide +kernel
theorem dX_digest_80 : decode bX_digest 80 = .ok (.invokevirtual 261, 3) := by decide +kernel
theorem dX_digest_83 : decode bX_digest 83 = .ok (.lstore_n 1, 1) := by decide +kernel
theorem dX_digest_84 : decode bX_digest 84 = .ok (.iinc 3 1, 3) := by decide +kernel
theorem dX_digest_87 : decode bX_digest 87 = .ok (.goto (-18), 3) := by decide +kernel
theorem dX_digest_90 : decode bX_digest 90 = .ok (.iconst 0, 1) := by decide +kernel
theorem dX_digest_91 : decode bX_digest 91 = .ok (.istore_n 3, 1) := by decide +kernel
theorem dX_digest_92 : decode bX_digest 92 = .ok (.iload_n 3, 1) := by decide +kernel
theorem dX_digest_93 : decode bX_digest 93 = .ok (.iconst 2, 1) := by decide +kernel
theorem dX_digest_94 : decode bX_digest 94 = .ok (.if_icmp .gt 22, 3) := by decide +kernel
theorem dX_digest_97 : decode bX_digest 97 = .ok (.ldc2_w 259, 3) := by decide +kernel
theorem dX_digest_100 : decode bX_digest 100 = .ok (.lload_n 1, 1) := by decide +kernel
theorem dX_digest_101 : decode bX_digest 101 = .ok (.lmul, 1) := by decide +kernel
theorem dX_digest_102 : decode bX_digest 102 = .ok (.aload_n 0, 1) := by decide +kernel
theorem dX_digest_103 : decode bX_digest 103 = .ok (.iload_n 3, 1) := by decide +kernel
theorem dX_digest_104 : decode bX_digest 104 = .ok (.invokevirtual 265, 3) := by decide +kernel
theorem dX_digest_107 : decode bX_digest 107 = .ok (.i2l, 1) := by decide +kernel
theorem dX_digest_108 : decode bX_digest 108 = .ok (.ladd, 1) := by decide +kernel
theorem dX_digest_109 : decode bX_digest 109 = .ok (.lstore_n 1, 1) := by decide +kernel
theorem dX_digest_110 : decode bX_digest 110 = .ok (.iinc 3 1, 3) := by decide +kernel
theorem dX_digest_113 : decode bX_digest 113 = .ok (.goto (-21), 3) := by decide +kernel
theorem dX_digest_116 : decode bX_digest 116 = .ok (.ldc2_w 259, 3) := by decide +kernel
theorem dX_digest_119 : decode bX_digest 119 = .ok (.lload_n 1, 1) := by decide +kernel
theorem dX_digest_120 : decode bX_digest 120 = .ok (.lmul, 1) := by decide +kernel
theorem dX_digest_121 : decode bX_digest 121 = .ok (.aload_n 0, 1) := by decide +kernel
theorem dX_digest_122 : decode bX_digest 122 = .ok (.invokevirtual 268, 3) := by decide +kernel
theorem dX_digest_125 : decode bX_digest 125 = .ok (.i2l, 1) := by decide +kernel
theorem dX_digest_126 : decode bX_digest 126 = .ok (.ladd, 1) := by decide +kernel
theorem dX_digest_127 : decode bX_digest 127 = .ok (.lstore_n 1, 1) := by decide +kernel
theorem dX_digest_128 : decode bX_digest 128 = .ok (.iconst 0, 1) := by decide +kernel
theorem dX_digest_129 : decode bX_digest 129 = .ok (.istore_n 3, 1) := by decide +kernel
theorem dX_digest_130 : decode bX_digest 130 = .ok (.iload_n 3, 1) := by decide +kernel
theorem dX_digest_131 : decode bX_digest 131 = .ok (.iconst 2, 1) := by decide +kernel
theorem dX_digest_132 : decode bX_digest 132 = .ok (.if_icmp .gt 24, 3) := by decide +kernel
theorem dX_digest_135 : decode bX_digest 135 = .ok (.ldc2_w 259, 3) := by decide +kernel
theorem dX_digest_138 : decode bX_digest 138 = .ok (.lload_n 1, 1) := by decide +kernel
theorem dX_digest_139 : decode bX_digest 139 = .ok (.lmul, 1) := by decide +kernel
theorem dX_digest_140 : decode bX_digest 140 = .ok (.aload_n 0, 1) := by decide +kernel
theorem dX_digest_141 : decode bX_digest 141 = .ok (.iconst 2, 1) := by decide +kernel
theorem dX_digest_142 : decode bX_digest 142 = .ok (.iconst 5, 1) := by decide +kernel
theorem dX_digest_143 : decode bX_digest 143 = .ok (.iload_n 3, 1) := by decide +kernel
theorem dX_digest_144 : decode bX_digest 144 = .ok (.invokevirtual 271, 3) := by decide +kernel
theorem dX_digest_147 : decode bX_digest 147 = .ok (.i2l, 1) := by decide +kernel
theorem dX_digest_148 : decode bX_digest 148 = .ok (.ladd, 1) := by decide +kernel
theorem dX_digest_149 : decode bX_digest 149 = .ok (.lstore_n 1, 1) := by decide +kernel
theorem dX_digest_150 : decode bX_digest 150 = .ok (.iinc 3 1, 3) := by decide +kernel
theorem dX_digest_153 : decode bX_digest 153 = .ok (.goto (-23), 3) := by decide +kernel
theorem dX_digest_156 : decode bX_digest 156 = .ok (.iconst 0, 1) := by decide +kernel
theorem dX_digest_157 : decode bX_digest 157 = .ok (.istore_n 3, 1) := by decide +kernel
theorem dX_digest_158 : decode bX_digest 158 = .ok (.iload_n 3, 1) := by decide +kernel
theorem dX_digest_159 : decode bX_digest 159 = .ok (.aload_n 0, 1) := by decide +kernel
theorem dX_digest_160 : decode bX_digest 160 = .ok (.getfield 33, 3) := by decide +kernel
theorem dX_digest_163 : decode bX_digest 163 = .ok (.getfield 138, 3) := by decide +kernel
theorem dX_digest_166 : decode bX_digest 166 = .ok (.if_icmp .ge 26, 3) := by decide +kernel
theorem dX_digest_169 : decode bX_digest 169 = .ok (.ldc2_w 259, 3) := by decide +kernel
theorem dX_digest_172 : decode bX_digest 172 = .ok (.lload_n 1, 1) := by decide +kernel
theorem dX_digest_173 : decode bX_digest 173 = .ok (.lmul, 1) := by decide +kernel
theorem dX_digest_174 : decode bX_digest 174 = .ok (.aload_n 0, 1) := by decide +kernel
theorem dX_digest_175 : decode bX_digest 175 = .ok (.getfield 33, 3) := by decide +kernel
theorem dX_digest_178 : decode bX_digest 178 = .ok (.getfield 275, 3) := by decide +kernel
theorem dX_digest_181 : decode bX_digest 181 = .ok (.iload_n 3, 1) := by decide +kernel
theorem dX_digest_182 : decode bX_digest 182 = .ok (.caload, 1) := by decide +kernel
theorem dX_digest_183 : decode bX_digest 183 = .ok (.i2l, 1) := by decide +kernel
theorem dX_digest_184 : decode bX_digest 184 = .ok (.ladd, 1) := by decide +kernel
theorem dX_digest_185 : decode bX_digest 185 = .ok (.lstore_n 1, 1) := by decide +kernel
theorem dX_digest_186 : decode bX_digest 186 = .ok (.iinc 3 1, 3) := by decide +kernel
theorem dX_digest_189 : decode bX_digest 189 = .ok (.goto (-31), 3) := by decide +kernel
theorem dX_digest_192 : decode bX_digest 192 = .ok (.iconst 0, 1) := by decide +kernel
theorem dX_digest_193 : decode bX_digest 193 = .ok (.istore_n 3, 1) := by decide +kernel
theorem dX_digest_194 : decode bX_digest 194 = .ok (.iload_n 3, 1) := by decide +kernel
theorem dX_digest_195 : decode bX_digest 195 = .ok (.bipush 8, 2) := by decide +kernel
theorem dX_digest_197 : decode bX_digest 197 = .ok (.if_icmp .gt 22, 3) := by decide +kernel
theorem dX_digest_200 : decode bX_digest 200 = .ok (.ldc2_w 259, 3) := by decide +kernel
theorem dX_digest_203 : decode bX_digest 203 = .ok (.lload_n 1, 1) := by decide +kernel
theorem dX_digest_204 : decode bX_digest 204 = .ok (.lmul, 1) := by decide +kernel
theorem dX_digest_205 : decode bX_digest 205 = .ok (.aload_n 0, 1) := by decide +kernel
theorem dX_digest_206 : decode bX_digest 206 = .ok (.iload_n 3, 1) := by decide +kernel
theorem dX_digest_207 : decode bX_digest 207 = .ok (.invokevirtual 279, 3) := by decide +kernel
theorem dX_digest_210 : decode bX_digest 210 = .ok (.i2l, 1) := by decide +kernel
theorem dX_digest_211 : decode bX_digest 211 = .ok (.ladd, 1) := by decide +kernel
theorem dX_digest_212 : decode bX_digest 212 = .ok (.lstore_n 1, 1) := by decide +kernel
theorem dX_digest_213 : decode bX_digest 213 = .ok (.iinc 3 1, 3) := by decide +kernel
theorem dX_digest_216 : decode bX_digest 216 = .ok (.goto (-22), 3) := by decide +kernel
theorem dX_digest_219 : decode bX_digest 219 = .ok (.lload_n 1, 1) := by decide +kernel
theorem dX_digest_220 : decode bX_digest 220 = .ok (.lreturn, 1) := by decide +kernel
theorem dX_outside_0 : decode bX_outside 0 = .ok (.iload_n 0, 1) := by decide +kernel
theorem dX_outside_1 : decode bX_outside 1 = .ok (.iload_n 1, 1) := by decide +kernel
theorem dX_outside_2 : decode bX_outside 2 = .ok (.if_icmp .lt 8, 3) := by decide +kernel
theorem dX_outside_5 : decode bX_outside 5 = .ok (.iload_n 0, 1) := by decide +kernel
theorem dX_outside_6 : decode bX_outside 6 = .ok (.iload_n 2, 1) := by decide +kernel
theorem dX_outside_7 : decode bX_outside 7 = .ok (.if_icmp .le 7, 3) := by decide +kernel
theorem dX_outside_10 : decode bX_outside 10 = .ok (.iconst 1, 1) := by decide +kernel
theorem dX_outside_11 : decode bX_outside 11 = .ok (.goto 4, 3) := by decide +kernel
theorem dX_outside_14 : decode bX_outside 14 = .ok (.iconst 0, 1) := by decide +kernel
theorem dX_outside_15 : decode bX_outside 15 = .ok (.ireturn, 1) := by decide +kernel
theorem dX_hasCall_0 : decode bX_hasCall 0 = .ok (.iload_n 1, 1) := by decide +kernel
theorem dX_hasCall_1 : decode bX_hasCall 1 = .ok (.ifCond .lt 15, 3) := by decide +kernel
theorem dX_hasCall_4 : decode bX_hasCall 4 = .ok (.iload_n 1, 1) := by decide +kernel
theorem dX_hasCall_5 : decode bX_hasCall 5 = .ok (.aload_n 0, 1) := by decide +kernel
theorem dX_hasCall_6 : decode bX_hasCall 6 = .ok (.getfield 149, 3) := by decide +kernel
theorem dX_hasCall_9 : decode bX_hasCall 9 = .ok (.if_icmp .ge 7, 3) := by decide +kernel
theorem dX_hasCall_12 : decode bX_hasCall 12 = .ok (.iconst 1, 1) := by decide +kernel
theorem dX_hasCall_13 : decode bX_hasCall 13 = .ok (.goto 4, 3) := by decide +kernel
theorem dX_hasCall_16 : decode bX_hasCall 16 = .ok (.iconst 0, 1) := by decide +kernel
theorem dX_hasCall_17 : decode bX_hasCall 17 = .ok (.ireturn, 1) := by decide +kernel
theorem dX_refusalOf_0 : decode bX_refusalOf 0 = .ok (.aload_n 0, 1) := by decide +kernel
theorem dX_refusalOf_1 : decode bX_refusalOf 1 = .ok (.iload_n 1, 1) := by decide +kernel
theorem dX_refusalOf_2 : decode bX_refusalOf 2 = .ok (.invokevirtual 173, 3) := by decide +kernel
theorem dX_refusalOf_5 : decode bX_refusalOf 5 = .ok (.ifCond .ne 6, 3) := by decide +kernel
theorem dX_refusalOf_8 : decode bX_refusalOf 8 = .ok (.bipush (-101), 2) := by decide +kernel
theorem dX_refusalOf_10 : decode bX_refusalOf 10 = .ok (.ireturn, 1) := by decide +kernel
theorem dX_refusalOf_11 : decode bX_refusalOf 11 = .ok (.aload_n 0, 1) := by decide +kernel
theorem dX_refusalOf_12 : decode bX_refusalOf 12 = .ok (.getfield 10, 3) := by decide +kernel
theorem dX_refusalOf_15 : decode bX_refusalOf 15 = .ok (.invokevirtual 90, 3) := by decide +kernel
theorem dX_refusalOf_18 : decode bX_refusalOf 18 = .ok (.ifCond .eq 8, 3) := by decide +kernel
theorem dX_refusalOf_21 : decode bX_refusalOf 21 = .ok (.bipush (-103), 2) := by decide +kernel
theorem dX_refusalOf_23 : decode bX_refusalOf 23 = .ok (.goto 4, 3) := by decide +kernel
theorem dX_refusalOf_26 : decode bX_refusalOf 26 = .ok (.iconst 0, 1) := by decide +kernel
theorem dX_refusalOf_27 : decode bX_refusalOf 27 = .ok (.ireturn, 1) := by decide +kernel
theorem dX_lineUp_0 : decode bX_lineUp 0 = .ok (.aload_n 0, 1) := by decide +kernel
theorem dX_lineUp_1 : decode bX_lineUp 1 = .ok (.getfield 39, 3) := by decide +kernel
theorem dX_lineUp_4 : decode bX_lineUp 4 = .ok (.iload_n 1, 1) := by decide +kernel
theorem dX_lineUp_5 : decode bX_lineUp 5 = .ok (.aaload, 1) := by decide +kernel
theorem dX_lineUp_6 : decode bX_lineUp 6 = .ok (.aload_n 0, 1) := by decide +kernel
theorem dX_lineUp_7 : decode bX_lineUp 7 = .ok (.getfield 46, 3) := by decide +kernel
theorem dX_lineUp_10 : decode bX_lineUp 10 = .ok (.aload_n 0, 1) := by decide +kernel
theorem dX_lineUp_11 : decode bX_lineUp 11 = .ok (.getfield 19, 3) := by decide +kernel
theorem dX_lineUp_14 : decode bX_lineUp 14 = .ok (.aload_n 0, 1) := by decide +kernel
theorem dX_lineUp_15 : decode bX_lineUp 15 = .ok (.getfield 10, 3) := by decide +kernel
theorem dX_lineUp_18 : decode bX_lineUp 18 = .ok (.iload_n 2, 1) := by decide +kernel
theorem dX_lineUp_19 : decode bX_lineUp 19 = .ok (.invokevirtual 282, 3) := by decide +kernel
theorem dX_lineUp_22 : decode bX_lineUp 22 = .ok (.return_, 1) := by decide +kernel
theorem dX_boardBy_0 : decode bX_boardBy 0 = .ok (.aload_n 0, 1) := by decide +kernel
theorem dX_boardBy_1 : decode bX_boardBy 1 = .ok (.iload_n 1, 1) := by decide +kernel
theorem dX_boardBy_2 : decode bX_boardBy 2 = .ok (.iload_n 2, 1) := by decide +kernel
theorem dX_boardBy_3 : decode bX_boardBy 3 = .ok (.invokevirtual 160, 3) := by decide +kernel
theorem dX_boardBy_6 : decode bX_boardBy 6 = .ok (.aload_n 0, 1) := by decide +kernel
theorem dX_boardBy_7 : decode bX_boardBy 7 = .ok (.getfield 59, 3) := by decide +kernel
theorem dX_boardBy_10 : decode bX_boardBy 10 = .ok (.aload_n 0, 1) := by decide +kernel
theorem dX_boardBy_11 : decode bX_boardBy 11 = .ok (.getfield 10, 3) := by decide +kernel
theorem dX_boardBy_14 : decode bX_boardBy 14 = .ok (.iload_n 2, 1) := by decide +kernel
theorem dX_boardBy_15 : decode bX_boardBy 15 = .ok (.invokevirtual 208, 3) := by decide +kernel
theorem dX_boardBy_18 : decode bX_boardBy 18 = .ok (.aload_n 0, 1) := by decide +kernel
theorem dX_boardBy_19 : decode bX_boardBy 19 = .ok (.getfield 59, 3) := by decide +kernel
theorem dX_boardBy_22 : decode bX_boardBy 22 = .ok (.aload_n 0, 1) := by decide +kernel
theorem dX_boardBy_23 : decode bX_boardBy 23 = .ok (.getfield 46, 3) := by decide +kernel
theorem dX_boardBy_26 : decode bX_boardBy 26 = .ok (.iload_n 3, 1) := by decide +kernel
theorem dX_boardBy_27 : decode bX_boardBy 27 = .ok (.invokevirtual 212, 3) := by decide +kernel
theorem dX_boardBy_30 : decode bX_boardBy 30 = .ok (.return_, 1) := by decide +kernel
theorem dX_findBest_0 : decode bX_findBest 0 = .ok (.aload_n 0, 1) := by decide +kernel
theorem dX_findBest_1 : decode bX_findBest 1 = .ok (.getfield 59, 3) := by decide +kernel
theorem dX_findBest_4 : decode bX_findBest 4 = .ok (.aload_n 0, 1) := by decide +kernel
theorem dX_findBest_5 : decode bX_findBest 5 = .ok (.getfield 10, 3) := by decide +kernel
theorem dX_findBest_8 : decode bX_findBest 8 = .ok (.iconst 3, 1) := by decide +kernel
theorem dX_findBest_9 : decode bX_findBest 9 = .ok (.invokevirtual 208, 3) := by decide +kernel
theorem dX_findBest_12 : decode bX_findBest 12 = .ok (.aload_n 0, 1) := by decide +kernel
theorem dX_findBest_13 : decode bX_findBest 13 = .ok (.getfield 46, 3) := by decide +kernel
theorem dX_findBest_16 : decode bX_findBest 16 = .ok (.aload_n 0, 1) := by decide +kernel
theorem dX_findBest_17 : decode bX_findBest 17 = .ok (.getfield 19, 3) := by decide +kernel
theorem dX_findBest_20 : decode bX_findBest 20 = .ok (.getfield 78, 3) := by decide +kernel
theorem dX_findBest_23 : decode bX_findBest 23 = .ok (.invokevirtual 219, 3) := by decide +kernel
theorem dX_findBest_26 : decode bX_findBest 26 = .ok (.aload_n 0, 1) := by decide +kernel
theorem dX_findBest_27 : decode bX_findBest 27 = .ok (.getfield 50, 3) := by decide +kernel
theorem dX_findBest_30 : decode bX_findBest 30 = .ok (.aload_n 0, 1) := by decide +kernel
theorem dX_findBest_31 : decode bX_findBest 31 = .ok (.getfield 46, 3) := by decide +kernel
theorem dX_findBest_34 : decode bX_findBest 34 = .ok (.invokevirtual 286, 3) := by decide +kernel
theorem dX_findBest_37 : decode bX_findBest 37 = .ok (.sipush 10000, 3) := by decide +kernel
theorem dX_findBest_40 : decode bX_findBest 40 = .ok (.istore_n 1, 1) := by decide +kernel
theorem dX_findBest_41 : decode bX_findBest 41 = .ok (.iconst 0, 1) := by decide +kernel
theorem dX_findBest_42 : decode bX_findBest 42 = .ok (.istore_n 2, 1) := by decide +kernel
theorem dX_findBest_43 : decode bX_findBest 43 = .ok (.iload_n 2, 1) := by decide +kernel
theorem dX_findBest_44 : decode bX_findBest 44 = .ok (.sipush 720, 3) := by decide +kernel
theorem dX_findBest_47 : decode bX_findBest 47 = .ok (.if_icmp .ge 58, 3) := by decide +kernel
theorem dX_findBest_50 : decode bX_findBest 50 = .ok (.aload_n 0, 1) := by decide +kernel
theorem dX_findBest_51 : decode bX_findBest 51 = .ok (.getfield 59, 3) := by decide +kernel
theorem dX_findBest_54 : decode bX_findBest 54 = .ok (.aload_n 0, 1) := by decide +kernel
theorem dX_findBest_55 : decode bX_findBest 55 = .ok (.getfield 46, 3) := by decide +kernel
theorem dX_findBest_58 : decode bX_findBest 58 = .ok (.iload_n 1, 1) := by decide +kernel
theorem dX_findBest_59 : decode bX_findBest 59 = .ok (.iconst 1, 1) := by decide +kernel
theorem dX_findBest_60 : decode bX_findBest 60 = .ok (.isub, 1) := by decide +kernel
theorem dX_findBest_61 : decode bX_findBest 61 = .ok (.invokevirtual 197, 3) := by decide +kernel
theorem dX_findBest_64 : decode bX_findBest 64 = .ok (.ifCond .eq 22, 3) := by decide +kernel
theorem dX_findBest_67 : decode bX_findBest 67 = .ok (.aload_n 0, 1) := by decide +kernel
theorem dX_findBest_68 : decode bX_findBest 68 = .ok (.getfield 59, 3) := by decide +kernel
theorem dX_findBest_71 : decode bX_findBest 71 = .ok (.getfield 185, 3) := by decide +kernel
theorem dX_findBest_74 : decode bX_findBest 74 = .ok (.istore_n 1, 1) := by decide +kernel
theorem dX_findBest_75 : decode bX_findBest 75 = .ok (.aload_n 0, 1) := by decide +kernel
theorem dX_findBest_76 : decode bX_findBest 76 = .ok (.getfield 50, 3) := by decide +kernel
theorem dX_findBest_79 : decode bX_findBest 79 = .ok (.aload_n 0, 1) := by decide +kernel
theorem dX_findBest_80 : decode bX_findBest 80 = .ok (.getfield 46, 3) := by decide +kernel
theorem dX_findBest_83 : decode bX_findBest 83 = .ok (.invokevirtual 286, 3) := by decide +kernel
theorem dX_findBest_86 : decode bX_findBest 86 = .ok (.aload_n 0, 1) := by decide +kernel
theorem dX_findBest_87 : decode bX_findBest 87 = .ok (.getfield 46, 3) := by decide +kernel
theorem dX_findBest_90 : decode bX_findBest 90 = .ok (.invokevirtual 290, 3) := by decide +kernel
theorem dX_findBest_93 : decode bX_findBest 93 = .ok (.ifCond .ne 6, 3) := by decide +kernel
theorem dX_findBest_96 : decode bX_findBest 96 = .ok (.goto 9, 3) := by decide +kernel
theorem dX_findBest_99 : decode bX_findBest 99 = .ok (.iinc 2 1, 3) := by decide +kernel
theorem dX_findBest_102 : decode bX_findBest 102 = .ok (.goto (-59), 3) := by decide +kernel
theorem dX_findBest_105 : decode bX_findBest 105 = .ok (.iload_n 1, 1) := by decide +kernel
theorem dX_findBest_106 : decode bX_findBest 106 = .ok (.ireturn, 1) := by decide +kernel
theorem dX_secondsByDoors_0 : decode bX_secondsByDoors 0 = .ok (.aload_n 0, 1) := by decide +kernel
theorem dX_secondsByDoors_1 : decode bX_secondsByDoors 1 = .ok (.iload_n 1, 1) := by decide +kernel
theorem dX_secondsByDoors_2 : decode bX_secondsByDoors 2 = .ok (.iconst 3, 1) := by decide +kernel
theorem dX_secondsByDoors_3 : decode bX_secondsByDoors 3 = .ok (.invokevirtual 160, 3) := by decide +kernel
theorem dX_secondsByDoors_6 : decode bX_secondsByDoors 6 = .ok (.aload_n 0, 1) := by decide +kernel
theorem dX_secondsByDoors_7 : decode bX_secondsByDoors 7 = .ok (.getfield 59, 3) := by decide +kernel
theorem dX_secondsByDoors_10 : decode bX_secondsByDoors 10 = .ok (.aload_n 0, 1) := by decide +kernel
theorem dX_secondsByDoors_11 : decode bX_secondsByDoors 11 = .ok (.getfield 10, 3) := by decide +kernel
theorem dX_secondsByDoors_14 : decode bX_secondsByDoors 14 = .ok (.iconst 3, 1) := by decide +kernel
theorem dX_secondsByDoors_15 : decode bX_secondsByDoors 15 = .ok (.invokevirtual 293, 3) := by decide +kernel
theorem dX_secondsByDoors_18 : decode bX_secondsByDoors 18 = .ok (.aload_n 0, 1) := by decide +kernel
theorem dX_secondsByDoors_19 : decode bX_secondsByDoors 19 = .ok (.getfield 59, 3) := by decide +kernel
theorem dX_secondsByDoors_22 : decode bX_secondsByDoors 22 = .ok (.aload_n 0, 1) := by decide +kernel
theorem dX_secondsByDoors_23 : decode bX_secondsByDoors 23 = .ok (.getfield 46, 3) := by decide +kernel
theorem dX_secondsByDoors_26 : decode bX_secondsByDoors 26 = .ok (.sipush 9999, 3) := by decide +kernel
theorem dX_secondsByDoors_29 : decode bX_secondsByDoors 29 = .ok (.invokevirtual 212, 3) := by decide +kernel
theorem dX_secondsByDoors_32 : decode bX_secondsByDoors 32 = .ok (.aload_n 0, 1) := by decide +kernel
theorem dX_secondsByDoors_33 : decode bX_secondsByDoors 33 = .ok (.getfield 59, 3) := by decide +kernel
theorem dX_secondsByDoors_36 : decode bX_secondsByDoors 36 = .ok (.getfield 185, 3) := by decide +kernel
theorem dX_secondsByDoors_39 : decode bX_secondsByDoors 39 = .ok (.istore_n 2, 1) := by decide +kernel
theorem dX_secondsByDoors_40 : decode bX_secondsByDoors 40 = .ok (.aload_n 0, 1) := by decide +kernel
theorem dX_secondsByDoors_41 : decode bX_secondsByDoors 41 = .ok (.getfield 59, 3) := by decide +kernel
theorem dX_secondsByDoors_44 : decode bX_secondsByDoors 44 = .ok (.aload_n 0, 1) := by decide +kernel
theorem dX_secondsByDoors_45 : decode bX_secondsByDoors 45 = .ok (.getfield 10, 3) := by decide +kernel
theorem dX_secondsByDoors_48 : decode bX_secondsByDoors 48 = .ok (.iconst 3, 1) := by decide +kernel
theorem dX_secondsByDoors_49 : decode bX_secondsByDoors 49 = .ok (.invokevirtual 296, 3) := by decide +kernel
theorem dX_secondsByDoors_52 : decode bX_secondsByDoors 52 = .ok (.aload_n 0, 1) := by decide +kernel
theorem dX_secondsByDoors_53 : decode bX_secondsByDoors 53 = .ok (.getfield 59, 3) := by decide +kernel
theorem dX_secondsByDoors_56 : decode bX_secondsByDoors 56 = .ok (.aload_n 0, 1) := by decide +kernel
theorem dX_secondsByDoors_57 : decode bX_secondsByDoors 57 = .ok (.getfield 46, 3) := by decide +kernel
theorem dX_secondsByDoors_60 : decode bX_secondsByDoors 60 = .ok (.sipush 9999, 3) := by decide +kernel
theorem dX_secondsByDoors_63 : decode bX_secondsByDoors 63 = .ok (.invokevirtual 212, 3) := by decide +kernel
theorem dX_secondsByDoors_66 : decode bX_secondsByDoors 66 = .ok (.iload_n 2, 1) := by decide +kernel
theorem dX_secondsByDoors_67 : decode bX_secondsByDoors 67 = .ok (.aload_n 0, 1) := by decide +kernel
theorem dX_secondsByDoors_68 : decode bX_secondsByDoors 68 = .ok (.getfield 59, 3) := by decide +kernel
theorem dX_secondsByDoors_71 : decode bX_secondsByDoors 71 = .ok (.getfield 185, 3) := by decide +kernel
theorem dX_secondsByDoors_74 : decode bX_secondsByDoors 74 = .ok (.invokestatic 230, 3) := by decide +kernel
theorem dX_secondsByDoors_77 : decode bX_secondsByDoors 77 = .ok (.ireturn, 1) := by decide +kernel
theorem dX_withCall_0 : decode bX_withCall 0 = .ok (.lload_n 1, 1) := by decide +kernel
theorem dX_withCall_1 : decode bX_withCall 1 = .ok (.lstore 4, 2) := by decide +kernel
theorem dX_withCall_3 : decode bX_withCall 3 = .ok (.aload_n 0, 1) := by decide +kernel
theorem dX_withCall_4 : decode bX_withCall 4 = .ok (.iload_n 3, 1) := by decide +kernel
theorem dX_withCall_5 : decode bX_withCall 5 = .ok (.iconst 3, 1) := by decide +kernel
theorem dX_withCall_6 : decode bX_withCall 6 = .ok (.sipush 9999, 3) := by decide +kernel
theorem dX_withCall_9 : decode bX_withCall 9 = .ok (.invokevirtual 168, 3) := by decide +kernel
theorem dX_withCall_12 : decode bX_withCall 12 = .ok (.iconst 0, 1) := by decide +kernel
theorem dX_withCall_13 : decode bX_withCall 13 = .ok (.istore 6, 2) := by decide +kernel
theorem dX_withCall_15 : decode bX_withCall 15 = .ok (.iload 6, 2) := by decide +kernel
theorem dX_withCall_17 : decode bX_withCall 17 = .ok (.aload_n 0, 1) := by decide +kernel
theorem dX_withCall_18 : decode bX_withCall 18 = .ok (.getfield 46, 3) := by decide +kernel
theorem dX_withCall_21 : decode bX_withCall 21 = .ok (.getfield 164, 3) := by decide +kernel
theorem dX_withCall_24 : decode bX_withCall 24 = .ok (.if_icmp .ge 29, 3) := by decide +kernel
theorem dX_withCall_27 : decode bX_withCall 27 = .ok (.ldc2_w 259, 3) := by decide +kernel
theorem dX_withCall_30 : decode bX_withCall 30 = .ok (.lload 4, 2) := by decide +kernel
theorem dX_withCall_32 : decode bX_withCall 32 = .ok (.lmul, 1) := by decide +kernel
theorem dX_withCall_33 : decode bX_withCall 33 = .ok (.aload_n 0, 1) := by decide +kernel
theorem dX_withCall_34 : decode bX_withCall 34 = .ok (.getfield 46, 3) := by decide +kernel
theorem dX_withCall_37 : decode bX_withCall 37 = .ok (.getfield 165, 3) := by decide +kernel
theorem dX_withCall_40 : decode bX_withCall 40 = .ok (.iload 6, 2) := by decide +kernel
theorem dX_withCall_42 : decode bX_withCall 42 = .ok (.iaload, 1) := by decide +kernel
theorem dX_withCall_43 : decode bX_withCall 43 = .ok (.i2l, 1) := by decide +kernel
theorem dX_withCall_44 : decode bX_withCall 44 = .ok (.ladd, 1) := by decide +kernel
theorem dX_withCall_45 : decode bX_withCall 45 = .ok (.lstore 4, 2) := by decide +kernel
theorem dX_withCall_47 : decode bX_withCall 47 = .ok (.iinc 6 1, 3) := by decide +kernel
theorem dX_withCall_50 : decode bX_withCall 50 = .ok (.goto (-35), 3) := by decide +kernel
theorem dX_withCall_53 : decode bX_withCall 53 = .ok (.iconst 0, 1) := by decide +kernel
theorem dX_withCall_54 : decode bX_withCall 54 = .ok (.istore 6, 2) := by decide +kernel
theorem dX_withCall_56 : decode bX_withCall 56 = .ok (.iload 6, 2) := by decide +kernel
theorem dX_withCall_58 : decode bX_withCall 58 = .ok (.iconst 2, 1) := by decide +kernel
theorem dX_withCall_59 : decode bX_withCall 59 = .ok (.if_icmp .gt 28, 3) := by decide +kernel
theorem dX_withCall_62 : decode bX_withCall 62 = .ok (.ldc2_w 259, 3) := by decide +kernel
theorem dX_withCall_65 : decode bX_withCall 65 = .ok (.lload 4, 2) := by decide +kernel
theorem dX_withCall_67 : decode bX_withCall 67 = .ok (.lmul, 1) := by decide +kernel
theorem dX_withCall_68 : decode bX_withCall 68 = .ok (.aload_n 0, 1) := by decide +kernel
theorem dX_withCall_69 : decode bX_withCall 69 = .ok (.getfield 59, 3) := by decide +kernel
theorem dX_withCall_72 : decode bX_withCall 72 = .ok (.iload 6, 2) := by decide +kernel
theorem dX_withCall_74 : decode bX_withCall 74 = .ok (.invokevirtual 171, 3) := by decide +kernel
theorem dX_withCall_77 : decode bX_withCall 77 = .ok (.i2l, 1) := by decide +kernel
theorem dX_withCall_78 : decode bX_withCall 78 = .ok (.ladd, 1) := by decide +kernel
theorem dX_withCall_79 : decode bX_withCall 79 = .ok (.lstore 4, 2) := by decide +kernel
theorem dX_withCall_81 : decode bX_withCall 81 = .ok (.iinc 6 1, 3) := by decide +kernel
theorem dX_withCall_84 : decode bX_withCall 84 = .ok (.goto (-28), 3) := by decide +kernel
theorem dX_withCall_87 : decode bX_withCall 87 = .ok (.ldc2_w 259, 3) := by decide +kernel
theorem dX_withCall_90 : decode bX_withCall 90 = .ok (.lload 4, 2) := by decide +kernel
theorem dX_withCall_92 : decode bX_withCall 92 = .ok (.lmul, 1) := by decide +kernel
theorem dX_withCall_93 : decode bX_withCall 93 = .ok (.aload_n 0, 1) := by decide +kernel
theorem dX_withCall_94 : decode bX_withCall 94 = .ok (.iload_n 3, 1) := by decide +kernel
theorem dX_withCall_95 : decode bX_withCall 95 = .ok (.invokevirtual 216, 3) := by decide +kernel
theorem dX_withCall_98 : decode bX_withCall 98 = .ok (.i2l, 1) := by decide +kernel
theorem dX_withCall_99 : decode bX_withCall 99 = .ok (.ladd, 1) := by decide +kernel
theorem dX_withCall_100 : decode bX_withCall 100 = .ok (.lreturn, 1) := by decide +kernel
theorem dM_in_0 : decode bM_in 0 = .ok (.lload_n 0, 1) := by decide +kernel
theorem dM_in_1 : decode bM_in 1 = .ok (.lload_n 2, 1) := by decide +kernel
theorem dM_in_2 : decode bM_in 2 = .ok (.lcmp, 1) := by decide +kernel
theorem dM_in_3 : decode bM_in 3 = .ok (.ifCond .lt 14, 3) := by decide +kernel
theorem dM_in_6 : decode bM_in 6 = .ok (.lload_n 0, 1) := by decide +kernel
theorem dM_in_7 : decode bM_in 7 = .ok (.lload 4, 2) := by decide +kernel
theorem dM_in_9 : decode bM_in 9 = .ok (.lcmp, 1) := by decide +kernel
theorem dM_in_10 : decode bM_in 10 = .ok (.ifCond .gt 7, 3) := by decide +kernel
theorem dM_in_13 : decode bM_in 13 = .ok (.iconst 1, 1) := by decide +kernel
theorem dM_in_14 : decode bM_in 14 = .ok (.goto 4, 3) := by decide +kernel
theorem dM_in_17 : decode bM_in 17 = .ok (.iconst 0, 1) := by decide +kernel
theorem dM_in_18 : decode bM_in 18 = .ok (.ireturn, 1) := by decide +kernel
theorem dM_cabin_0 : decode bM_cabin 0 = .ok (.iload_n 1, 1) := by decide +kernel
theorem dM_cabin_1 : decode bM_cabin 1 = .ok (.i2l, 1) := by decide +kernel
theorem dM_cabin_2 : decode bM_cabin 2 = .ok (.ldc2_w 68, 3) := by decide +kernel
theorem dM_cabin_5 : decode bM_cabin 5 = .ok (.ldc2_w 70, 3) := by decide +kernel
theorem dM_cabin_8 : decode bM_cabin 8 = .ok (.invokestatic 72, 3) := by decide +kernel
theorem dM_cabin_11 : decode bM_cabin 11 = .ok (.ifCond .eq 27, 3) := by decide +kernel
theorem dM_cabin_14 : decode bM_cabin 14 = .ok (.iload_n 2, 1) := by decide +kernel
theorem dM_cabin_15 : decode bM_cabin 15 = .ok (.i2l, 1) := by decide +kernel
theorem dM_cabin_16 : decode bM_cabin 16 = .ok (.lconst 1, 1) := by decide +kernel
theorem dM_cabin_17 : decode bM_cabin 17 = .ok (.ldc2_w 76, 3) := by decide +kernel
theorem dM_cabin_20 : decode bM_cabin 20 = .ok (.invokestatic 72, 3) := by decide +kernel
theorem dM_cabin_23 : decode bM_cabin 23 = .ok (.ifCond .eq 15, 3) := by decide +kernel
theorem dM_cabin_26 : decode bM_cabin 26 = .ok (.iload_n 3, 1) := by decide +kernel
theorem dM_cabin_27 : decode bM_cabin 27 = .ok (.i2l, 1) := by decide +kernel
theorem dM_cabin_28 : decode bM_cabin 28 = .ok (.lconst 0, 1) := by decide +kernel
theorem dM_cabin_29 : decode bM_cabin 29 = .ok (.ldc2_w 78, 3) := by decide +kernel
theorem dM_cabin_32 : decode bM_cabin 32 = .ok (.invokestatic 72, 3) := by decide +kernel
theorem dM_cabin_35 : decode bM_cabin 35 = .ok (.ifCond .ne 6, 3) := by decide +kernel
theorem dM_cabin_38 : decode bM_cabin 38 = .ok (.bipush (-102), 2) := by decide +kernel
theorem dM_cabin_40 : decode bM_cabin 40 = .ok (.ireturn, 1) := by decide +kernel
theorem dM_cabin_41 : decode bM_cabin 41 = .ok (.aload_n 0, 1) := by decide +kernel
theorem dM_cabin_42 : decode bM_cabin 42 = .ok (.iload_n 1, 1) := by decide +kernel
theorem dM_cabin_43 : decode bM_cabin 43 = .ok (.putfield 80, 3) := by decide +kernel
theorem dM_cabin_46 : decode bM_cabin 46 = .ok (.aload_n 0, 1) := by decide +kernel
theorem dM_cabin_47 : decode bM_cabin 47 = .ok (.iload_n 2, 1) := by decide +kernel
theorem dM_cabin_48 : decode bM_cabin 48 = .ok (.putfield 83, 3) := by decide +kernel
theorem dM_cabin_51 : decode bM_cabin 51 = .ok (.aload_n 0, 1) := by decide +kernel
theorem dM_cabin_52 : decode bM_cabin 52 = .ok (.iload_n 3, 1) := by decide +kernel
theorem dM_cabin_53 : decode bM_cabin 53 = .ok (.putfield 86, 3) := by decide +kernel
theorem dM_cabin_56 : decode bM_cabin 56 = .ok (.aload_n 0, 1) := by decide +kernel
theorem dM_cabin_57 : decode bM_cabin 57 = .ok (.iconst 0, 1) := by decide +kernel
theorem dM_cabin_58 : decode bM_cabin 58 = .ok (.putfield 89, 3) := by decide +kernel
theorem dM_cabin_61 : decode bM_cabin 61 = .ok (.aload_n 0, 1) := by decide +kernel
theorem dM_cabin_62 : decode bM_cabin 62 = .ok (.dup, 1) := by decide +kernel
theorem dM_cabin_63 : decode bM_cabin 63 = .ok (.getfield 92, 3) := by decide +kernel
theorem dM_cabin_66 : decode bM_cabin 66 = .ok (.iconst 1, 1) := by decide +kernel
theorem dM_cabin_67 : decode bM_cabin 67 = .ok (.iadd, 1) := by decide +kernel
theorem dM_cabin_68 : decode bM_cabin 68 = .ok (.putfield 92, 3) := by decide +kernel
theorem dM_cabin_71 : decode bM_cabin 71 = .ok (.iconst 2, 1) := by decide +kernel
theorem dM_cabin_72 : decode bM_cabin 72 = .ok (.aload_n 0, 1) := by decide +kernel
theorem dM_cabin_73 : decode bM_cabin 73 = .ok (.getfield 80, 3) := by decide +kernel
theorem dM_cabin_76 : decode bM_cabin 76 = .ok (.imul, 1) := by decide +kernel
theorem dM_cabin_77 : decode bM_cabin 77 = .ok (.aload_n 0, 1) := by decide +kernel
theorem dM_cabin_78 : decode bM_cabin 78 = .ok (.getfield 83, 3) := by decide +kernel
theorem dM_cabin_81 : decode bM_cabin 81 = .ok (.imul, 1) := by decide +kernel
theorem dM_cabin_82 : decode bM_cabin 82 = .ok (.ireturn, 1) := by decide +kernel
theorem dM_lacks_0 : decode bM_lacks 0 = .ok (.aload_n 0, 1) := by decide +kernel
theorem dM_lacks_1 : decode bM_lacks 1 = .ok (.getfield 80, 3) := by decide +kernel
theorem dM_lacks_4 : decode bM_lacks 4 = .ok (.ifCond .ne 7, 3) := by decide +kernel
theorem dM_lacks_7 : decode bM_lacks 7 = .ok (.iconst 1, 1) := by decide +kernel
theorem dM_lacks_8 : decode bM_lacks 8 = .ok (.goto 4, 3) := by decide +kernel
theorem dM_lacks_11 : decode bM_lacks 11 = .ok (.iconst 0, 1) := by decide +kernel
theorem dM_lacks_12 : decode bM_lacks 12 = .ok (.ireturn, 1) := by decide +kernel
theorem dM_isPerson_0 : decode bM_isPerson 0 = .ok (.iload_n 1, 1) := by decide +kernel
theorem dM_isPerson_1 : decode bM_isPerson 1 = .ok (.i2l, 1) := by decide +kernel
theorem dM_isPerson_2 : decode bM_isPerson 2 = .ok (.lconst 0, 1) := by decide +kernel
theorem dM_isPerson_3 : decode bM_isPerson 3 = .ok (.aload_n 0, 1) := by decide +kernel
theorem dM_isPerson_4 : decode bM_isPerson 4 = .ok (.getfield 89, 3) := by decide +kernel
theorem dM_isPerson_7 : decode bM_isPerson 7 = .ok (.iconst 1, 1) := by decide +kernel
theorem dM_isPerson_8 : decode bM_isPerson 8 = .ok (.isub, 1) := by decide +kernel
theorem dM_isPerson_9 : decode bM_isPerson 9 = .ok (.i2l, 1) := by decide +kernel
theorem dM_isPerson_10 : decode bM_isPerson 10 = .ok (.invokestatic 72, 3) := by decide +kernel
theorem dM_isPerson_13 : decode bM_isPerson 13 = .ok (.ireturn, 1) := by decide +kernel
theorem dM_isTaken_0 : decode bM_isTaken 0 = .ok (.iconst 0, 1) := by decide +kernel
theorem dM_isTaken_1 : decode bM_isTaken 1 = .ok (.istore 4, 2) := by decide +kernel
theorem dM_isTaken_3 : decode bM_isTaken 3 = .ok (.iconst 0, 1) := by decide +kernel
theorem dM_isTaken_4 : decode bM_isTaken 4 = .ok (.istore 5, 2) := by decide +kernel
theorem dM_isTaken_6 : decode bM_isTaken 6 = .ok (.iload 5, 2) := by decide +kernel
theorem dM_isTaken_8 : decode bM_isTaken 8 = .ok (.aload_n 0, 1) := by decide +kernel
theorem dM_isTaken_9 : decode bM_isTaken 9 = .ok (.getfield 89, 3) := by decide +kernel
theorem dM_isTaken_12 : decode bM_isTaken 12 = .ok (.if_icmp .ge 69, 3) := by decide +kernel
theorem dM_isTaken_15 : decode bM_isTaken 15 = .ok (.iload 4, 2) := by decide +kernel
theorem dM_isTaken_17 : decode bM_isTaken 17 = .ok (.ifCond .ne 51, 3) := by decide +kernel
theorem dM_isTaken_20 : decode bM_isTaken 20 = .ok (.aload_n 0, 1) := by decide +kernel
theorem dM_isTaken_21 : decode bM_isTaken 21 = .ok (.getfield 7, 3) := by decide +kernel
theorem dM_isTaken_24 : decode bM_isTaken 24 = .ok (.bipush 7, 2) := by decide +kernel
theorem dM_isTaken_26 : decode bM_isTaken 26 = .ok (.iload 5, 2) := by decide +kernel
theorem dM_isTaken_28 : decode bM_isTaken 28 = .ok (.imul, 1) := by decide +kernel
theorem dM_isTaken_29 : decode bM_isTaken 29 = .ok (.iconst 2, 1) := by decide +kernel
theorem dM_isTaken_30 : decode bM_isTaken 30 = .ok (.iadd, 1) := by decide +kernel
theorem dM_isTaken_31 : decode bM_isTaken 31 = .ok (.iaload, 1) := by decide +kernel
theorem dM_isTaken_32 : decode bM_isTaken 32 = .ok (.iload_n 1, 1) := by decide +kernel
theorem dM_isTaken_33 : decode bM_isTaken 33 = .ok (.if_icmp .ne 39, 3) := by decide +kernel
theorem dM_isTaken_36 : decode bM_isTaken 36 = .ok (.aload_n 0, 1) := by decide +kernel
theorem dM_isTaken_37 : decode bM_isTaken 37 = .ok (.getfield 7, 3) := by decide +kernel
theorem dM_isTaken_40 : decode bM_isTaken 40 = .ok (.bipush 7, 2) := by decide +kernel
theorem dM_isTaken_42 : decode bM_isTaken 42 = .ok (.iload 5, 2) := by decide +kernel
theorem dM_isTaken_44 : decode bM_isTaken 44 = .ok (.imul, 1) := by decide +kernel
theorem dM_isTaken_45 : decode bM_isTaken 45 = .ok (.iconst 3, 1) := by decide +kernel
theorem dM_isTaken_46 : decode bM_isTaken 46 = .ok (.iadd, 1) := by decide +kernel
theorem dM_isTaken_47 : decode bM_isTaken 47 = .ok (.iaload, 1) := by decide +kernel
theorem dM_isTaken_48 : decode bM_isTaken 48 = .ok (.iload_n 2, 1) := by decide +kernel
theorem dM_isTaken_49 : decode bM_isTaken 49 = .ok (.if_icmp .ne 23, 3) := by decide +kernel
theorem dM_isTaken_52 : decode bM_isTaken 52 = .ok (.aload_n 0, 1) := by decide +kernel
theorem dM_isTaken_53 : decode bM_isTaken 53 = .ok (.getfield 7, 3) := by decide +kernel
theorem dM_isTaken_56 : decode bM_isTaken 56 = .ok (.bipush 7, 2) := by decide +kernel
theorem dM_isTaken_58 : decode bM_isTaken 58 = .ok (.iload 5, 2) := by decide +kernel
theorem dM_isTaken_60 : decode bM_isTaken 60 = .ok (.imul, 1) := by decide +kernel
theorem dM_isTaken_61 : decode bM_isTaken 61 = .ok (.iconst 4, 1) := by decide +kernel
theorem dM_isTaken_62 : decode bM_isTaken 62 = .ok (.iadd, 1) := by decide +kernel
theorem dM_isTaken_63 : decode bM_isTaken 63 = .ok (.iaload, 1) := by decide +kernel
theorem dM_isTaken_64 : decode bM_isTaken 64 = .ok (.iload_n 3, 1) := by decide +kernel
theorem dM_isTaken_65 : decode bM_isTaken 65 = .ok (.if_icmp .ne 7, 3) := by decide +kernel
theorem dM_isTaken_68 : decode bM_isTaken 68 = .ok (.iconst 1, 1) := by decide +kernel
theorem dM_isTaken_69 : decode bM_isTaken 69 = .ok (.goto 4, 3) := by decide +kernel
theorem dM_isTaken_72 : decode bM_isTaken 72 = .ok (.iconst 0, 1) := by decide +kernel
theorem dM_isTaken_73 : decode bM_isTaken 73 = .ok (.istore 4, 2) := by decide +kernel
theorem dM_isTaken_75 : decode bM_isTaken 75 = .ok (.iinc 5 1, 3) := by decide +kernel
theorem dM_isTaken_78 : decode bM_isTaken 78 = .ok (.goto (-72), 3) := by decide +kernel
theorem dM_isTaken_81 : decode bM_isTaken 81 = .ok (.iload 4, 2) := by decide +kernel
theorem dM_isTaken_83 : decode bM_isTaken 83 = .ok (.ireturn, 1) := by decide +kernel
theorem dM_person_0 : decode bM_person 0 = .ok (.aload_n 0, 1) := by decide +kernel
theorem dM_person_1 : decode bM_person 1 = .ok (.invokevirtual 95, 3) := by decide +kernel
theorem dM_person_4 : decode bM_person 4 = .ok (.ifCond .eq 6, 3) := by decide +kernel
theorem dM_person_7 : decode bM_person 7 = .ok (.bipush (-103), 2) := by decide +kernel
theorem dM_person_9 : decode bM_person 9 = .ok (.ireturn, 1) := by decide +kernel
theorem dM_person_10 : decode bM_person 10 = .ok (.iload_n 1, 1) := by decide +kernel
theorem dM_person_11 : decode bM_person 11 = .ok (.i2l, 1) := by decide +kernel
theorem dM_person_12 : decode bM_person 12 = .ok (.lconst 0, 1) := by decide +kernel
theorem dM_person_13 : decode bM_person 13 = .ok (.ldc2_w 76, 3) := by decide +kernel
theorem dM_person_16 : decode bM_person 16 = .ok (.invokestatic 72, 3) := by decide +kernel
theorem dM_person_19 : decode bM_person 19 = .ok (.ifCond .ne 6, 3) := by decide +kernel
theorem dM_person_22 : decode bM_person 22 = .ok (.bipush (-102), 2) := by decide +kernel
theorem dM_person_24 : decode bM_person 24 = .ok (.ireturn, 1) := by decide +kernel
theorem dM_person_25 : decode bM_person 25 = .ok (.iload_n 1, 1) := by decide +kernel
theorem dM_person_26 : decode bM_person 26 = .ok (.iconst 3, 1) := by decide +kernel
theorem dM_person_27 : decode bM_person 27 = .ok (.if_icmp .ne 11, 3) := by decide +kernel
theorem dM_person_30 : decode bM_person 30 = .ok (.aload_n 0, 1) := by decide +kernel
theorem dM_person_31 : decode bM_person 31 = .ok (.iload_n 2, 1) := by decide +kernel
theorem dM_person_32 : decode bM_person 32 = .ok (.invokevirtual 99, 3) := by decide +kernel
theorem dM_person_35 : decode bM_person 35 = .ok (.goto 13, 3) := by decide +kernel
theorem dM_person_38 : decode bM_person 38 = .ok (.iload_n 2, 1) := by decide +kernel
theorem dM_person_39 : decode bM_person 39 = .ok (.iconst (-1), 1) := by decide +kernel
theorem dM_person_40 : decode bM_person 40 = .ok (.if_icmp .ne 7, 3) := by decide +kernel
theorem dM_person_43 : decode bM_person 43 = .ok (.iconst 1, 1) := by decide +kernel
theorem dM_person_44 : decode bM_person 44 = .ok (.goto 4, 3) := by decide +kernel
theorem dM_person_47 : decode bM_person 47 = .ok (.iconst 0, 1) := by decide +kernel
theorem dM_person_48 : decode bM_person 48 = .ok (.istore 8, 2) := by decide +kernel
theorem dM_person_50 : decode bM_person 50 = .ok (.iload 8, 2) := by decide +kernel
theorem dM_person_52 : decode bM_person 52 = .ok (.ifCond .ne 6, 3) := by decide +kernel
theorem dM_person_55 : decode bM_person 55 = .ok (.bipush (-101), 2) := by decide +kernel
theorem dM_person_57 : decode bM_person 57 = .ok (.ireturn, 1) := by decide +kernel
theorem dM_person_58 : decode bM_person 58 = .ok (.iload_n 3, 1) := by decide +kernel
theorem dM_person_59 : decode bM_person 59 = .ok (.i2l, 1) := by decide +kernel
theorem dM_person_60 : decode bM_person 60 = .ok (.lconst 0, 1) := by decide +kernel
theorem dM_person_61 : decode bM_person 61 = .ok (.aload_n 0, 1) := by decide +kernel
theorem dM_person_62 : decode bM_person 62 = .ok (.getfield 80, 3) := by decide +kernel
theorem dM_person_65 : decode bM_person 65 = .ok (.iconst 1, 1) := by decide +kernel
theorem dM_person_66 : decode bM_person 66 = .ok (.isub, 1) := by decide +kernel
theorem dM_person_67 : decode bM_person 67 = .ok (.i2l, 1) := by decide +kernel
theorem dM_person_68 : decode bM_person 68 = .ok (.invokestatic 72, 3) := by decide +kernel
theorem dM_person_71 : decode bM_person 71 = .ok (.ifCond .eq 61, 3) := by decide +kernel
theorem dM_person_74 : decode bM_person 74 = .ok (.iload 4, 2) := by decide +kernel
theorem dM_person_76 : decode bM_person 76 = .ok (.i2l, 1) := by decide +kernel
theorem dM_person_77 : decode bM_person 77 = .ok (.lconst 0, 1) := by decide +kernel
theorem dM_person_78 : decode bM_person 78 = .ok (.lconst 1, 1) := by decide +kernel
theorem dM_person_79 : decode bM_person 79 = .ok (.invokestatic 72, 3) := by decide +kernel
theorem dM_person_82 : decode bM_person 82 = .ok (.ifCond .eq 50, 3) := by decide +kernel
theorem dM_person_85 : decode bM_person 85 = .ok (.iload 5, 2) := by decide +kernel
theorem dM_person_87 : decode bM_person 87 = .ok (.i2l, 1) := by decide +kernel
theorem dM_person_88 : decode bM_person 88 = .ok (.lconst 0, 1) := by decide +kernel
theorem dM_person_89 : decode bM_person 89 = .ok (.aload_n 0, 1) := by decide +kernel
theorem dM_person_90 : decode bM_person 90 = .ok (.getfield 83, 3) := by decide +kernel
theorem dM_person_93 : decode bM_person 93 = .ok (.iconst 1, 1) := by decide +kernel
theorem dM_person_94 : decode bM_person 94 = .ok (.isub, 1) := by decide +kernel
theorem dM_person_95 : decode bM_person 95 = .ok (.i2l, 1) := by decide +kernel
theorem dM_person_96 : decode bM_person 96 = .ok (.invokestatic 72, 3) := by decide +kernel
theorem dM_person_99 : decode bM_person 99 = .ok (.ifCond .eq 33, 3) := by decide +kernel
theorem dM_person_102 : decode bM_person 102 = .ok (.iload 6, 2) := by decide +kernel
theorem dM_person_104 : decode bM_person 104 = .ok (.i2l, 1) := by decide +kernel
theorem dM_person_105 : decode bM_person 105 = .ok (.lconst 0, 1) := by decide +kernel
theorem dM_person_106 : decode bM_person 106 = .ok (.ldc2_w 76, 3) := by decide +kernel
theorem dM_person_109 : decode bM_person 109 = .ok (.invokestatic 72, 3) := by decide +kernel
theorem dM_person_112 : decode bM_person 112 = .ok (.ifCond .eq 20, 3) := by decide +kernel
theorem dM_person_115 : decode bM_person 115 = .ok (.iload 7, 2) := by decide +kernel
theorem dM_person_117 : decode bM_person 117 = .ok (.i2l, 1) := by decide +kernel
theorem dM_person_118 : decode bM_person 118 = .ok (.lconst 0, 1) := by decide +kernel
theorem dM_person_119 : decode bM_person 119 = .ok (.ldc2_w 103, 3) := by decide +kernel
theorem dM_person_122 : decode bM_person 122 = .ok (.invokestatic 72, 3) := by decide +kernel
theorem dM_person_125 : decode bM_person 125 = .ok (.ifCond .eq 7, 3) := by decide +kernel
theorem dM_person_128 : decode bM_person 128 = .ok (.iconst 1, 1) := by decide +kernel
theorem dM_person_129 : decode bM_person 129 = .ok (.goto 4, 3) := by decide +kernel
theorem dM_person_132 : decode bM_person 132 = .ok (.iconst 0, 1) := by decide +kernel
theorem dM_person_133 : decode bM_person 133 = .ok (.istore 9, 2) := by decide +kernel
theorem dM_person_135 : decode bM_person 135 = .ok (.iload 9, 2) := by decide +kernel
theorem dM_person_137 : decode bM_person 137 = .ok (.ifCond .ne 6, 3) := by decide +kernel
theorem dM_person_140 : decode bM_person 140 = .ok (.bipush (-102), 2) := by decide +kernel
theorem dM_person_142 : decode bM_person 142 = .ok (.ireturn, 1) := by decide +kernel
theorem dM_person_143 : decode bM_person 143 = .ok (.aload_n 0, 1) := by decide +kernel
theorem dM_person_144 : decode bM_person 144 = .ok (.iload_n 3, 1) := by decide +kernel
theorem dM_person_145 : decode bM_person 145 = .ok (.iload 4, 2) := by decide +kernel
theorem dM_person_147 : decode bM_person 147 = .ok (.iload 5, 2) := by decide +kernel
theorem dM_person_149 : decode bM_person 149 = .ok (.invokevirtual 105, 3) := by decide +kernel
theorem dM_person_152 : decode bM_person 152 = .ok (.ifCond .eq 6, 3) := by decide +kernel
theorem dM_person_155 : decode bM_person 155 = .ok (.bipush (-103), 2) := by decide +kernel
theorem dM_person_157 : decode bM_person 157 = .ok (.ireturn, 1) := by decide +kernel
theorem dM_person_158 : decode bM_person 158 = .ok (.aload_n 0, 1) := by decide +kernel
theorem dM_person_159 : decode bM_person 159 = .ok (.getfield 89, 3) := by decide +kernel
theorem dM_person_162 : decode bM_person 162 = .ok (.bipush 12, 2) := by decide +kernel
theorem dM_person_164 : decode bM_person 164 = .ok (.if_icmp .ne 6, 3) := by decide +kernel
theorem dM_person_167 : decode bM_person 167 = .ok (.bipush (-104), 2) := by decide +kernel
theorem dM_person_169 : decode bM_person 169 = .ok (.ireturn, 1) := by decide +kernel
theorem dM_person_170 : decode bM_person 170 = .ok (.bipush 7, 2) := by decide +kernel
theorem dM_person_172 : decode bM_person 172 = .ok (.aload_n 0, 1) := by decide +kernel
theorem dM_person_173 : decode bM_person 173 = .ok (.getfield 89, 3) := by decide +kernel
theorem dM_person_176 : decode bM_person 176 = .ok (.imul, 1) := by decide +kernel
theorem dM_person_177 : decode bM_person 177 = .ok (.istore 10, 2) := by decide +kernel
theorem dM_person_179 : decode bM_person 179 = .ok (.aload_n 0, 1) := by decide +kernel
theorem dM_person_180 : decode bM_person 180 = .ok (.getfield 7, 3) := by decide +kernel
theorem dM_person_183 : decode bM_person 183 = .ok (.iload 10, 2) := by decide +kernel
theorem dM_person_185 : decode bM_person 185 = .ok (.iload_n 1, 1) := by decide +kernel
theorem dM_person_186 : decode bM_person 186 = .ok (.iastore, 1) := by decide +kernel
theorem dM_person_187 : decode bM_person 187 = .ok (.aload_n 0, 1) := by decide +kernel
theorem dM_person_188 : decode bM_person 188 = .ok (.getfield 7, 3) := by decide +kernel
theorem dM_person_191 : decode bM_person 191 = .ok (.iload 10, 2) := by decide +kernel
theorem dM_person_193 : decode bM_person 193 = .ok (.iconst 1, 1) := by decide +kernel
theorem dM_person_194 : decode bM_person 194 = .ok (.iadd, 1) := by decide +kernel
theorem dM_person_195 : decode bM_person 195 = .ok (.iload_n 2, 1) := by decide +kernel
theorem dM_person_196 : decode bM_person 196 = .ok (.iastore, 1) := by decide +kernel
theorem dM_person_197 : decode bM_person 197 = .ok (.aload_n 0, 1) := by decide +kernel
theorem dM_person_198 : decode bM_person 198 = .ok (.getfield 7, 3) := by decide +kernel
theorem dM_person_201 : decode bM_person 201 = .ok (.iload 10, 2) := by decide +kernel
theorem dM_person_203 : decode bM_person 203 = .ok (.iconst 2, 1) := by decide +kernel
theorem dM_person_204 : decode bM_person 204 = .ok (.iadd, 1) := by decide +kernel
theorem dM_person_205 : decode bM_person 205 = .ok (.iload_n 3, 1) := by decide +kernel
theorem dM_person_206 : decode bM_person 206 = .ok (.iastore, 1) := by decide +kernel
theorem dM_person_207 : decode bM_person 207 = .ok (.aload_n 0, 1) := by decide +kernel
theorem dM_person_208 : decode bM_person 208 = .ok (.getfield 7, 3) := by decide +kernel
theorem dM_person_211 : decode bM_person 211 = .ok (.iload 10, 2) := by decide +kernel
theorem dM_person_213 : decode bM_person 213 = .ok (.iconst 3, 1) := by decide +kernel
theorem dM_person_214 : decode bM_person 214 = .ok (.iadd, 1) := by decide +kernel
theorem dM_person_215 : decode bM_person 215 = .ok (.iload 4, 2) := by decide +kernel
theorem dM_person_217 : decode bM_person 217 = .ok (.iastore, 1) := by decide +kernel
theorem dM_person_218 : decode bM_person 218 = .ok (.aload_n 0, 1) := by decide +kernel
theorem dM_person_219 : decode bM_person 219 = .ok (.getfield 7, 3) := by decide +kernel
theorem dM_person_222 : decode bM_person 222 = .ok (.iload 10, 2) := by decide +kernel
theorem dM_person_224 : decode bM_person 224 = .ok (.iconst 4, 1) := by decide +kernel
theorem dM_person_225 : decode bM_person 225 = .ok (.iadd, 1) := by decide +kernel
theorem dM_person_226 : decode bM_person 226 = .ok (.iload 5, 2) := by decide +kernel
theorem dM_person_228 : decode bM_person 228 = .ok (.iastore, 1) := by decide +kernel
theorem dM_person_229 : decode bM_person 229 = .ok (.aload_n 0, 1) := by decide +kernel
theorem dM_person_230 : decode bM_person 230 = .ok (.getfield 7, 3) := by decide +kernel
theorem dM_person_233 : decode bM_person 233 = .ok (.iload 10, 2) := by decide +kernel
theorem dM_person_235 : decode bM_person 235 = .ok (.iconst 5, 1) := by decide +kernel
theorem dM_person_236 : decode bM_person 236 = .ok (.iadd, 1) := by decide +kernel
theorem dM_person_237 : decode bM_person 237 = .ok (.iload 6, 2) := by decide +kernel
theorem dM_person_239 : decode bM_person 239 = .ok (.iastore, 1) := by decide +kernel
theorem dM_person_240 : decode bM_person 240 = .ok (.aload_n 0, 1) := by decide +kernel
theorem dM_person_241 : decode bM_person 241 = .ok (.getfield 7, 3) := by decide +kernel
theorem dM_person_244 : decode bM_person 244 = .ok (.iload 10, 2) := by decide +kernel
theorem dM_person_246 : decode bM_person 246 = .ok (.bipush 6, 2) := by decide +kernel
theorem dM_person_248 : decode bM_person 248 = .ok (.iadd, 1) := by decide +kernel
theorem dM_person_249 : decode bM_person 249 = .ok (.iload 7, 2) := by decide +kernel
theorem dM_person_251 : decode bM_person 251 = .ok (.iastore, 1) := by decide +kernel
theorem dM_person_252 : decode bM_person 252 = .ok (.aload_n 0, 1) := by decide +kernel
theorem dM_person_253 : decode bM_person 253 = .ok (.dup, 1) := by decide +kernel
theorem dM_person_254 : decode bM_person 254 = .ok (.getfield 89, 3) := by decide +kernel
theorem dM_person_257 : decode bM_person 257 = .ok (.iconst 1, 1) := by decide +kernel
theorem dM_person_258 : decode bM_person 258 = .ok (.iadd, 1) := by decide +kernel
theorem dM_person_259 : decode bM_person 259 = .ok (.putfield 89, 3) := by decide +kernel
theorem dM_person_262 : decode bM_person 262 = .ok (.aload_n 0, 1) := by decide +kernel
theorem dM_person_263 : decode bM_person 263 = .ok (.getfield 89, 3) := by decide +kernel
theorem dM_person_266 : decode bM_person 266 = .ok (.iconst 1, 1) := by decide +kernel
theorem dM_person_267 : decode bM_person 267 = .ok (.isub, 1) := by decide +kernel
theorem dM_person_268 : decode bM_person 268 = .ok (.ireturn, 1) := by decide +kernel
theorem dM_as_0 : decode bM_as 0 = .ok (.aload_n 0, 1) := by decide +kernel
theorem dM_as_1 : decode bM_as 1 = .ok (.iload_n 1, 1) := by decide +kernel
theorem dM_as_2 : decode bM_as 2 = .ok (.invokevirtual 99, 3) := by decide +kernel
theorem dM_as_5 : decode bM_as 5 = .ok (.ifCond .ne 6, 3) := by decide +kernel
theorem dM_as_8 : decode bM_as 8 = .ok (.bipush (-101), 2) := by decide +kernel
theorem dM_as_10 : decode bM_as 10 = .ok (.ireturn, 1) := by decide +kernel
theorem dM_as_11 : decode bM_as 11 = .ok (.iload_n 2, 1) := by decide +kernel
theorem dM_as_12 : decode bM_as 12 = .ok (.i2l, 1) := by decide +kernel
theorem dM_as_13 : decode bM_as 13 = .ok (.lconst 0, 1) := by decide +kernel
theorem dM_as_14 : decode bM_as 14 = .ok (.ldc2_w 76, 3) := by decide +kernel
theorem dM_as_17 : decode bM_as 17 = .ok (.invokestatic 72, 3) := by decide +kernel
theorem dM_as_20 : decode bM_as 20 = .ok (.ifCond .ne 6, 3) := by decide +kernel
theorem dM_as_23 : decode bM_as 23 = .ok (.bipush (-102), 2) := by decide +kernel
theorem dM_as_25 : decode bM_as 25 = .ok (.ireturn, 1) := by decide +kernel
theorem dM_as_26 : decode bM_as 26 = .ok (.aload_n 0, 1) := by decide +kernel
theorem dM_as_27 : decode bM_as 27 = .ok (.getfield 7, 3) := by decide +kernel
theorem dM_as_30 : decode bM_as 30 = .ok (.bipush 7, 2) := by decide +kernel
theorem dM_as_32 : decode bM_as 32 = .ok (.iload_n 1, 1) := by decide +kernel
theorem dM_as_33 : decode bM_as 33 = .ok (.imul, 1) := by decide +kernel
theorem dM_as_34 : decode bM_as 34 = .ok (.iaload, 1) := by decide +kernel
theorem dM_as_35 : decode bM_as 35 = .ok (.istore_n 3, 1) := by decide +kernel
theorem dM_as_36 : decode bM_as 36 = .ok (.iload_n 2, 1) := by decide +kernel
theorem dM_as_37 : decode bM_as 37 = .ok (.ifCond .eq 18, 3) := by decide +kernel
theorem dM_as_40 : decode bM_as 40 = .ok (.iload_n 2, 1) := by decide +kernel
theorem dM_as_41 : decode bM_as 41 = .ok (.iload_n 3, 1) := by decide +kernel
theorem dM_as_42 : decode bM_as 42 = .ok (.if_icmp .eq 13, 3) := by decide +kernel
theorem dM_as_45 : decode bM_as 45 = .ok (.iload_n 2, 1) := by decide +kernel
theorem dM_as_46 : decode bM_as 46 = .ok (.iconst 2, 1) := by decide +kernel
theorem dM_as_47 : decode bM_as 47 = .ok (.if_icmp .ne 12, 3) := by decide +kernel
theorem dM_as_50 : decode bM_as 50 = .ok (.iload_n 3, 1) := by decide +kernel
theorem dM_as_51 : decode bM_as 51 = .ok (.iconst 3, 1) := by decide +kernel
theorem dM_as_52 : decode bM_as 52 = .ok (.if_icmp .ne 7, 3) := by decide +kernel
theorem dM_as_55 : decode bM_as 55 = .ok (.iconst 1, 1) := by decide +kernel
theorem dM_as_56 : decode bM_as 56 = .ok (.goto 4, 3) := by decide +kernel
theorem dM_as_59 : decode bM_as 59 = .ok (.iconst 0, 1) := by decide +kernel
theorem dM_as_60 : decode bM_as 60 = .ok (.istore 4, 2) := by decide +kernel
theorem dM_as_62 : decode bM_as 62 = .ok (.iload 4, 2) := by decide +kernel
theorem dM_as_64 : decode bM_as 64 = .ok (.ifCond .eq 7, 3) := by decide +kernel
theorem dM_as_67 : decode bM_as 67 = .ok (.iload_n 1, 1) := by decide +kernel
theorem dM_as_68 : decode bM_as 68 = .ok (.goto 4, 3) := by decide +kernel
theorem dM_as_71 : decode bM_as 71 = .ok (.iconst (-1), 1) := by decide +kernel
theorem dM_as_72 : decode bM_as 72 = .ok (.ireturn, 1) := by decide +kernel
theorem dM_about_0 : decode bM_about 0 = .ok (.aload_n 0, 1) := by decide +kernel
theorem dM_about_1 : decode bM_about 1 = .ok (.iload_n 1, 1) := by decide +kernel
theorem dM_about_2 : decode bM_about 2 = .ok (.invokevirtual 99, 3) := by decide +kernel
theorem dM_about_5 : decode bM_about 5 = .ok (.ifCond .ne 6, 3) := by decide +kernel
theorem dM_about_8 : decode bM_about 8 = .ok (.bipush (-101), 2) := by decide +kernel
theorem dM_about_10 : decode bM_about 10 = .ok (.ireturn, 1) := by decide +kernel
theorem dM_about_11 : decode bM_about 11 = .ok (.iload_n 2, 1) := by decide +kernel
theorem dM_about_12 : decode bM_about 12 = .ok (.i2l, 1) := by decide +kernel
theorem dM_about_13 : decode bM_about 13 = .ok (.lconst 0, 1) := by decide +kernel
theorem dM_about_14 : decode bM_about 14 = .ok (.ldc2_w 78, 3) := by decide +kernel
theorem dM_about_17 : decode bM_about 17 = .ok (.invokestatic 72, 3) := by decide +kernel
theorem dM_about_20 : decode bM_about 20 = .ok (.ifCond .eq 17, 3) := by decide +kernel
theorem dM_about_23 : decode bM_about 23 = .ok (.aload_n 0, 1) := by decide +kernel
theorem dM_about_24 : decode bM_about 24 = .ok (.getfield 7, 3) := by decide +kernel
theorem dM_about_27 : decode bM_about 27 = .ok (.bipush 7, 2) := by decide +kernel
theorem dM_about_29 : decode bM_about 29 = .ok (.iload_n 1, 1) := by decide +kernel
theorem dM_about_30 : decode bM_about 30 = .ok (.imul, 1) := by decide +kernel
theorem dM_about_31 : decode bM_about 31 = .ok (.iload_n 2, 1) := by decide +kernel
theorem dM_about_32 : decode bM_about 32 = .ok (.iadd, 1) := by decide +kernel
theorem dM_about_33 : decode bM_about 33 = .ok (.iaload, 1) := by decide +kernel
theorem dM_about_34 : decode bM_about 34 = .ok (.goto 5, 3) := by decide +kernel
theorem dM_about_37 : decode bM_about 37 = .ok (.bipush (-102), 2) := by decide +kernel
theorem dM_about_39 : decode bM_about 39 = .ok (.ireturn, 1) := by decide +kernel
theorem dM_change_0 : decode bM_change 0 = .ok (.aload_n 0, 1) := by decide +kernel
theorem dM_change_1 : decode bM_change 1 = .ok (.iload_n 1, 1) := by decide +kernel
theorem dM_change_2 : decode bM_change 2 = .ok (.invokevirtual 99, 3) := by decide +kernel
theorem dM_change_5 : decode bM_change 5 = .ok (.ifCond .ne 6, 3) := by decide +kernel
theorem dM_change_8 : decode bM_change 8 = .ok (.bipush (-101), 2) := by decide +kernel
theorem dM_change_10 : decode bM_change 10 = .ok (.ireturn, 1) := by decide +kernel
theorem dM_change_11 : decode bM_change 11 = .ok (.iload_n 2, 1) := by decide +kernel
theorem dM_change_12 : decode bM_change 12 = .ok (.i2l, 1) := by decide +kernel
theorem dM_change_13 : decode bM_change 13 = .ok (.ldc2_w 109, 3) := by decide +kernel
theorem dM_change_16 : decode bM_change 16 = .ok (.ldc2_w 78, 3) := by decide +kernel
theorem dM_change_19 : decode bM_change 19 = .ok (.invokestatic 72, 3) := by decide +kernel
theorem dM_change_22 : decode bM_change 22 = .ok (.ifCond .eq 26, 3) := by decide +kernel
theorem dM_change_25 : decode bM_change 25 = .ok (.iload_n 3, 1) := by decide +kernel
theorem dM_change_26 : decode bM_change 26 = .ok (.i2l, 1) := by decide +kernel
theorem dM_change_27 : decode bM_change 27 = .ok (.lconst 0, 1) := by decide +kernel
theorem dM_change_28 : decode bM_change 28 = .ok (.iload_n 2, 1) := by decide +kernel
theorem dM_change_29 : decode bM_change 29 = .ok (.iconst 5, 1) := by decide +kernel
theorem dM_change_30 : decode bM_change 30 = .ok (.if_icmp .ne 9, 3) := by decide +kernel
theorem dM_change_33 : decode bM_change 33 = .ok (.ldc2_w 76, 3) := by decide +kernel
theorem dM_change_36 : decode bM_change 36 = .ok (.goto 6, 3) := by decide +kernel
theorem dM_change_39 : decode bM_change 39 = .ok (.ldc2_w 103, 3) := by decide +kernel
theorem dM_change_42 : decode bM_change 42 = .ok (.invokestatic 72, 3) := by decide +kernel
theorem dM_change_45 : decode bM_change 45 = .ok (.ifCond .ne 6, 3) := by decide +kernel
theorem dM_change_48 : decode bM_change 48 = .ok (.bipush (-102), 2) := by decide +kernel
theorem dM_change_50 : decode bM_change 50 = .ok (.ireturn, 1) := by decide +kernel
theorem dM_change_51 : decode bM_change 51 = .ok (.aload_n 0, 1) := by decide +kernel
theorem dM_change_52 : decode bM_change 52 = .ok (.getfield 7, 3) := by decide +kernel
theorem dM_change_55 : decode bM_change 55 = .ok (.bipush 7, 2) := by decide +kernel
theorem dM_change_57 : decode bM_change 57 = .ok (.iload_n 1, 1) := by decide +kernel
theorem dM_change_58 : decode bM_change 58 = .ok (.imul, 1) := by decide +kernel
theorem dM_change_59 : decode bM_change 59 = .ok (.iload_n 2, 1) := by decide +kernel
theorem dM_change_60 : decode bM_change 60 = .ok (.iadd, 1) := by decide +kernel
theorem dM_change_61 : decode bM_change 61 = .ok (.iaload, 1) := by decide +kernel
theorem dM_change_62 : decode bM_change 62 = .ok (.istore 4, 2) := by decide +kernel
theorem dM_change_64 : decode bM_change 64 = .ok (.aload_n 0, 1) := by decide +kernel
theorem dM_change_65 : decode bM_change 65 = .ok (.getfield 7, 3) := by decide +kernel
theorem dM_change_68 : decode bM_change 68 = .ok (.bipush 7, 2) := by decide +kernel
theorem dM_change_70 : decode bM_change 70 = .ok (.iload_n 1, 1) := by decide +kernel
theorem dM_change_71 : decode bM_change 71 = .ok (.imul, 1) := by decide +kernel
theorem dM_change_72 : decode bM_change 72 = .ok (.iload_n 2, 1) := by decide +kernel
theorem dM_change_73 : decode bM_change 73 = .ok (.iadd, 1) := by decide +kernel
theorem dM_change_74 : decode bM_change 74 = .ok (.iload_n 3, 1) := by decide +kernel
theorem dM_change_75 : decode bM_change 75 = .ok (.iastore, 1) := by decide +kernel
theorem dM_change_76 : decode bM_change 76 = .ok (.iload 4, 2) := by decide +kernel
theorem dM_change_78 : decode bM_change 78 = .ok (.ireturn, 1) := by decide +kernel
theorem dM_letters_0 : decode bM_letters 0 = .ok (.iconst 0, 1) := by decide +kernel
theorem dM_letters_1 : decode bM_letters 1 = .ok (.istore_n 3, 1) := by decide +kernel
theorem dM_letters_2 : decode bM_letters 2 = .ok (.iconst 1, 1) := by decide +kernel
theorem dM_letters_3 : decode bM_letters 3 = .ok (.istore 4, 2) := by decide +kernel
theorem dM_letters_5 : decode bM_letters 5 = .ok (.lload_n 1, 1) := by decide +kernel
theorem dM_letters_6 : decode bM_letters 6 = .ok (.lstore 5, 2) := by decide +kernel
theorem dM_letters_8 : decode bM_letters 8 = .ok (.iconst 0, 1) := by decide +kernel
theorem dM_letters_9 : decode bM_letters 9 = .ok (.istore 7, 2) := by decide +kernel
theorem dM_letters_11 : decode bM_letters 11 = .ok (.iload 7, 2) := by decide +kernel
theorem dM_letters_13 : decode bM_letters 13 = .ok (.bipush 8, 2) := by decide +kernel
theorem dM_letters_15 : decode bM_letters 15 = .ok (.if_icmp .ge 68, 3) := by decide +kernel
theorem dM_letters_18 : decode bM_letters 18 = .ok (.lload 5, 2) := by decide +kernel
theorem dM_letters_20 : decode bM_letters 20 = .ok (.ldc2_w 111, 3) := by decide +kernel
theorem dM_letters_23 : decode bM_letters 23 = .ok (.land, 1) := by decide +kernel
theorem dM_letters_24 : decode bM_letters 24 = .ok (.l2i, 1) := by decide +kernel
theorem dM_letters_25 : decode bM_letters 25 = .ok (.istore 8, 2) := by decide +kernel
theorem dM_letters_27 : decode bM_letters 27 = .ok (.lload 5, 2) := by decide +kernel
theorem dM_letters_29 : decode bM_letters 29 = .ok (.bipush 8, 2) := by decide +kernel
theorem dM_letters_31 : decode bM_letters 31 = .ok (.lushr, 1) := by decide +kernel
theorem dM_letters_32 : decode bM_letters 32 = .ok (.lstore 5, 2) := by decide +kernel
theorem dM_letters_34 : decode bM_letters 34 = .ok (.iload 4, 2) := by decide +kernel
theorem dM_letters_36 : decode bM_letters 36 = .ok (.ifCond .eq 25, 3) := by decide +kernel
theorem dM_letters_39 : decode bM_letters 39 = .ok (.iload 8, 2) := by decide +kernel
theorem dM_letters_41 : decode bM_letters 41 = .ok (.bipush 126, 2) := by decide +kernel
theorem dM_letters_43 : decode bM_letters 43 = .ok (.if_icmp .gt 18, 3) := by decide +kernel
theorem dM_letters_46 : decode bM_letters 46 = .ok (.iload 8, 2) := by decide +kernel
theorem dM_letters_48 : decode bM_letters 48 = .ok (.ifCond .eq 9, 3) := by decide +kernel
theorem dM_letters_51 : decode bM_letters 51 = .ok (.iload_n 3, 1) := by decide +kernel
theorem dM_letters_52 : decode bM_letters 52 = .ok (.iload 7, 2) := by decide +kernel
theorem dM_letters_54 : decode bM_letters 54 = .ok (.if_icmp .ne 7, 3) := by decide +kernel
theorem dM_letters_57 : decode bM_letters 57 = .ok (.iconst 1, 1) := by decide +kernel
theorem dM_letters_58 : decode bM_letters 58 = .ok (.goto 4, 3) := by decide +kernel
theorem dM_letters_61 : decode bM_letters 61 = .ok (.iconst 0, 1) := by decide +kernel
theorem dM_letters_62 : decode bM_letters 62 = .ok (.istore 4, 2) := by decide +kernel
theorem dM_letters_64 : decode bM_letters 64 = .ok (.iload_n 3, 1) := by decide +kernel
theorem dM_letters_65 : decode bM_letters 65 = .ok (.iload 8, 2) := by decide +kernel
theorem dM_letters_67 : decode bM_letters 67 = .ok (.ifCond .le 7, 3) := by decide +kernel
theorem dM_letters_70 : decode bM_letters 70 = .ok (.iconst 1, 1) := by decide +kernel
theorem dM_letters_71 : decode bM_letters 71 = .ok (.goto 4, 3) := by decide +kernel
theorem dM_letters_74 : decode bM_letters 74 = .ok (.iconst 0, 1) := by decide +kernel
theorem dM_letters_75 : decode bM_letters 75 = .ok (.iadd, 1) := by decide +kernel
theorem dM_letters_76 : decode bM_letters 76 = .ok (.istore_n 3, 1) := by decide +kernel
theorem dM_letters_77 : decode bM_letters 77 = .ok (.iinc 7 1, 3) := by decide +kernel
theorem dM_letters_80 : decode bM_letters 80 = .ok (.goto (-69), 3) := by decide +kernel
theorem dM_letters_83 : decode bM_letters 83 = .ok (.iload 4, 2) := by decide +kernel
theorem dM_letters_85 : decode bM_letters 85 = .ok (.ifCond .ne 6, 3) := by decide +kernel
theorem dM_letters_88 : decode bM_letters 88 = .ok (.bipush (-102), 2) := by decide +kernel
theorem dM_letters_90 : decode bM_letters 90 = .ok (.ireturn, 1) := by decide +kernel
theorem dM_letters_91 : decode bM_letters 91 = .ok (.aload_n 0, 1) := by decide +kernel
theorem dM_letters_92 : decode bM_letters 92 = .ok (.getfield 113, 3) := by decide +kernel
theorem dM_letters_95 : decode bM_letters 95 = .ok (.iload_n 3, 1) := by decide +kernel
theorem dM_letters_96 : decode bM_letters 96 = .ok (.iadd, 1) := by decide +kernel
theorem dM_letters_97 : decode bM_letters 97 = .ok (.bipush 16, 2) := by decide +kernel
theorem dM_letters_99 : decode bM_letters 99 = .ok (.if_icmp .le 6, 3) := by decide +kernel
theorem dM_letters_102 : decode bM_letters 102 = .ok (.bipush (-104), 2) := by decide +kernel
theorem dM_letters_104 : decode bM_letters 104 = .ok (.ireturn, 1) := by decide +kernel
theorem dM_letters_105 : decode bM_letters 105 = .ok (.iconst 0, 1) := by decide +kernel
theorem dM_letters_106 : decode bM_letters 106 = .ok (.istore 7, 2) := by decide +kernel
theorem dM_letters_108 : decode bM_letters 108 = .ok (.iload 7, 2) := by decide +kernel
theorem dM_letters_110 : decode bM_letters 110 = .ok (.iload_n 3, 1) := by decide +kernel
theorem dM_letters_111 : decode bM_letters 111 = .ok (.if_icmp .ge 40, 3) := by decide +kernel
theorem dM_letters_114 : decode bM_letters 114 = .ok (.aload_n 0, 1) := by decide +kernel
theorem dM_letters_115 : decode bM_letters 115 = .ok (.getfield 13, 3) := by decide +kernel
theorem dM_letters_118 : decode bM_letters 118 = .ok (.aload_n 0, 1) := by decide +kernel
theorem dM_letters_119 : decode bM_letters 119 = .ok (.getfield 113, 3) := by decide +kernel
theorem dM_letters_122 : decode bM_letters 122 = .ok (.lload_n 1, 1) := by decide +kernel
theorem dM_letters_123 : decode bM_letters 123 = .ok (.bipush 8, 2) := by decide +kernel
theorem dM_letters_125 : decode bM_letters 125 = .ok (.iload 7, 2) := by decide +kernel
theorem dM_letters_127 : decode bM_letters 127 = .ok (.imul, 1) := by decide +kernel
theorem dM_letters_128 : decode bM_letters 128 = .ok (.lushr, 1) := by decide +kernel
theorem dM_letters_129 : decode bM_letters 129 = .ok (.ldc2_w 111, 3) := by decide +kernel
theorem dM_letters_132 : decode bM_letters 132 = .ok (.land, 1) := by decide +kernel
theorem dM_letters_133 : decode bM_letters 133 = .ok (.l2i, 1) := by decide +kernel
theorem dM_letters_134 : decode bM_letters 134 = .ok (.iastore, 1) := by decide +kernel
theorem dM_letters_135 : decode bM_letters 135 = .ok (.aload_n 0, 1) := by decide +kernel
theorem dM_letters_136 : decode bM_letters 136 = .ok (.dup, 1) := by decide +kernel
theorem dM_letters_137 : decode bM_letters 137 = .ok (.getfield 113, 3) := by decide +kernel
theorem dM_letters_140 : decode bM_letters 140 = .ok (.iconst 1, 1) := by decide +kernel
theorem dM_letters_141 : decode bM_letters 141 = .ok (.iadd, 1) := by decide +kernel
theorem dM_letters_142 : decode bM_letters 142 = .ok (.putfield 113, 3) := by decide +kernel
theorem dM_letters_145 : decode bM_letters 145 = .ok (.iinc 7 1, 3) := by decide +kernel
theorem dM_letters_148 : decode bM_letters 148 = .ok (.goto (-40), 3) := by decide +kernel
theorem dM_letters_151 : decode bM_letters 151 = .ok (.aload_n 0, 1) := by decide +kernel
theorem dM_letters_152 : decode bM_letters 152 = .ok (.getfield 113, 3) := by decide +kernel
theorem dM_letters_155 : decode bM_letters 155 = .ok (.ireturn, 1) := by decide +kernel
theorem dM_blank_0 : decode bM_blank 0 = .ok (.aload_n 0, 1) := by decide +kernel
theorem dM_blank_1 : decode bM_blank 1 = .ok (.getfield 113, 3) := by decide +kernel
theorem dM_blank_4 : decode bM_blank 4 = .ok (.istore_n 1, 1) := by decide +kernel
theorem dM_blank_5 : decode bM_blank 5 = .ok (.aload_n 0, 1) := by decide +kernel
theorem dM_blank_6 : decode bM_blank 6 = .ok (.iconst 0, 1) := by decide +kernel
theorem dM_blank_7 : decode bM_blank 7 = .ok (.putfield 113, 3) := by decide +kernel
theorem dM_blank_10 : decode bM_blank 10 = .ok (.iload_n 1, 1) := by decide +kernel
theorem dM_blank_11 : decode bM_blank 11 = .ok (.ireturn, 1) := by decide +kernel
theorem dM_isKey_0 : decode bM_isKey 0 = .ok (.iload_n 0, 1) := by decide +kernel
theorem dM_isKey_1 : decode bM_isKey 1 = .ok (.bipush 98, 2) := by decide +kernel
theorem dM_isKey_3 : decode bM_isKey 3 = .ok (.if_icmp .eq 39, 3) := by decide +kernel
theorem dM_isKey_6 : decode bM_isKey 6 = .ok (.iload_n 0, 1) := by decide +kernel
theorem dM_isKey_7 : decode bM_isKey 7 = .ok (.bipush 102, 2) := by decide +kernel
theorem dM_isKey_9 : decode bM_isKey 9 = .ok (.if_icmp .eq 33, 3) := by decide +kernel
theorem dM_isKey_12 : decode bM_isKey 12 = .ok (.iload_n 0, 1) := by decide +kernel
theorem dM_isKey_13 : decode bM_isKey 13 = .ok (.bipush 119, 2) := by decide +kernel
theorem dM_isKey_15 : decode bM_isKey 15 = .ok (.if_icmp .eq 27, 3) := by decide +kernel
theorem dM_isKey_18 : decode bM_isKey 18 = .ok (.iload_n 0, 1) := by decide +kernel
theorem dM_isKey_19 : decode bM_isKey 19 = .ok (.bipush 97, 2) := by decide +kernel
theorem dM_isKey_21 : decode bM_isKey 21 = .ok (.if_icmp .eq 21, 3) := by decide +kernel
theorem dM_isKey_24 : decode bM_isKey 24 = .ok (.iload_n 0, 1) := by decide +kernel
theorem dM_isKey_25 : decode bM_isKey 25 = .ok (.bipush 115, 2) := by decide +kernel
theorem dM_isKey_27 : decode bM_isKey 27 = .ok (.if_icmp .eq 15, 3) := by decide +kernel
theorem dM_isKey_30 : decode bM_isKey 30 = .ok (.iload_n 0, 1) := by decide +kernel
theorem dM_isKey_31 : decode bM_isKey 31 = .ok (.bipush 111, 2) := by decide +kernel
theorem dM_isKey_33 : decode bM_isKey 33 = .ok (.if_icmp .eq 9, 3) := by decide +kernel
theorem dM_isKey_36 : decode bM_isKey 36 = .ok (.iload_n 0, 1) := by decide +kernel
theorem dM_isKey_37 : decode bM_isKey 37 = .ok (.bipush 103, 2) := by decide +kernel
theorem dM_isKey_39 : decode bM_isKey 39 = .ok (.if_icmp .ne 7, 3) := by decide +kernel
theorem dM_isKey_42 : decode bM_isKey 42 = .ok (.iconst 1, 1) := by decide +kernel
theorem dM_isKey_43 : decode bM_isKey 43 = .ok (.goto 4, 3) := by decide +kernel
theorem dM_isKey_46 : decode bM_isKey 46 = .ok (.iconst 0, 1) := by decide +kernel
theorem dM_isKey_47 : decode bM_isKey 47 = .ok (.ireturn, 1) := by decide +kernel
theorem dM_go_0 : decode bM_go 0 = .ok (.aload_n 0, 1) := by decide +kernel
theorem dM_go_1 : decode bM_go 1 = .ok (.getfield 116, 3) := by decide +kernel
theorem dM_go_4 : decode bM_go 4 = .ok (.iconst 1, 1) := by decide +kernel
theorem dM_go_5 : decode bM_go 5 = .ok (.if_icmp .ne 37, 3) := by decide +kernel
theorem dM_go_8 : decode bM_go 8 = .ok (.aload_n 0, 1) := by decide +kernel
theorem dM_go_9 : decode bM_go 9 = .ok (.getfield 19, 3) := by decide +kernel
theorem dM_go_12 : decode bM_go 12 = .ok (.iconst 2, 1) := by decide +kernel
theorem dM_go_13 : decode bM_go 13 = .ok (.aload_n 0, 1) := by decide +kernel
theorem dM_go_14 : decode bM_go 14 = .ok (.getfield 119, 3) := by decide +kernel
theorem dM_go_17 : decode bM_go 17 = .ok (.imul, 1) := by decide +kernel
theorem dM_go_18 : decode bM_go 18 = .ok (.iconst 1, 1) := by decide +kernel
theorem dM_go_19 : decode bM_go 19 = .ok (.isub, 1) := by decide +kernel
theorem dM_go_20 : decode bM_go 20 = .ok (.iload_n 1, 1) := by decide +kernel
theorem dM_go_21 : decode bM_go 21 = .ok (.bipush 48, 2) := by decide +kernel
theorem dM_go_23 : decode bM_go 23 = .ok (.isub, 1) := by decide +kernel
theorem dM_go_24 : decode bM_go 24 = .ok (.iastore, 1) := by decide +kernel
theorem dM_go_25 : decode bM_go 25 = .ok (.aload_n 0, 1) := by decide +kernel
theorem dM_go_26 : decode bM_go 26 = .ok (.iconst 2, 1) := by decide +kernel
theorem dM_go_27 : decode bM_go 27 = .ok (.putfield 116, 3) := by decide +kernel
theorem dM_go_30 : decode bM_go 30 = .ok (.iload_n 1, 1) := by decide +kernel
theorem dM_go_31 : decode bM_go 31 = .ok (.i2l, 1) := by decide +kernel
theorem dM_go_32 : decode bM_go 32 = .ok (.ldc2_w 122, 3) := by decide +kernel
theorem dM_go_35 : decode bM_go 35 = .ok (.ldc2_w 124, 3) := by decide +kernel
theorem dM_go_38 : decode bM_go 38 = .ok (.invokestatic 72, 3) := by decide +kernel
theorem dM_go_41 : decode bM_go 41 = .ok (.ireturn, 1) := by decide +kernel
theorem dM_go_42 : decode bM_go 42 = .ok (.aload_n 0, 1) := by decide +kernel
theorem dM_go_43 : decode bM_go 43 = .ok (.getfield 116, 3) := by decide +kernel
theorem dM_go_46 : decode bM_go 46 = .ok (.iconst 2, 1) := by decide +kernel
theorem dM_go_47 : decode bM_go 47 = .ok (.if_icmp .ne 28, 3) := by decide +kernel
theorem dM_go_50 : decode bM_go 50 = .ok (.aload_n 0, 1) := by decide +kernel
theorem dM_go_51 : decode bM_go 51 = .ok (.iconst 0, 1) := by decide +kernel
theorem dM_go_52 : decode bM_go 52 = .ok (.putfield 116, 3) := by decide +kernel
theorem dM_go_55 : decode bM_go 55 = .ok (.iload_n 1, 1) := by decide +kernel
theorem dM_go_56 : decode bM_go 56 = .ok (.bipush 44, 2) := by decide +kernel
theorem dM_go_58 : decode bM_go 58 = .ok (.if_icmp .ne 15, 3) := by decide +kernel
theorem dM_go_61 : decode bM_go 61 = .ok (.aload_n 0, 1) := by decide +kernel
theorem dM_go_62 : decode bM_go 62 = .ok (.getfield 119, 3) := by decide +kernel
theorem dM_go_65 : decode bM_go 65 = .ok (.iconst 4, 1) := by decide +kernel
theorem dM_go_66 : decode bM_go 66 = .ok (.if_icmp .ge 7, 3) := by decide +kernel
theorem dM_go_69 : decode bM_go 69 = .ok (.iconst 1, 1) := by decide +kernel
theorem dM_go_70 : decode bM_go 70 = .ok (.goto 4, 3) := by decide +kernel
theorem dM_go_73 : decode bM_go 73 = .ok (.iconst 0, 1) := by decide +kernel
theorem dM_go_74 : decode bM_go 74 = .ok (.ireturn, 1) := by decide +kernel
theorem dM_go_75 : decode bM_go 75 = .ok (.iload_n 1, 1) := by decide +kernel
theorem dM_go_76 : decode bM_go 76 = .ok (.invokestatic 126, 3) := by decide +kernel
theorem dM_go_79 : decode bM_go 79 = .ok (.ifCond .ne 5, 3) := by decide +kernel
theorem dM_go_82 : decode bM_go 82 = .ok (.iconst 0, 1) := by decide +kernel
theorem dM_go_83 : decode bM_go 83 = .ok (.ireturn, 1) := by decide +kernel
theorem dM_go_84 : decode bM_go 84 = .ok (.aload_n 0, 1) := by decide +kernel
theorem dM_go_85 : decode bM_go 85 = .ok (.getfield 19, 3) := by decide +kernel
theorem dM_go_88 : decode bM_go 88 = .ok (.iconst 2, 1) := by decide +kernel
theorem dM_go_89 : decode bM_go 89 = .ok (.aload_n 0, 1) := by decide +kernel
theorem dM_go_90 : decode bM_go 90 = .ok (.getfield 119, 3) := by decide +kernel
theorem dM_go_93 : decode bM_go 93 = .ok (.imul, 1) := by decide +kernel
theorem dM_go_94 : decode bM_go 94 = .ok (.iload_n 1, 1) := by decide +kernel
theorem dM_go_95 : decode bM_go 95 = .ok (.iastore, 1) := by decide +kernel
theorem dM_go_96 : decode bM_go 96 = .ok (.aload_n 0, 1) := by decide +kernel
theorem dM_go_97 : decode bM_go 97 = .ok (.getfield 19, 3) := by decide +kernel
theorem dM_go_100 : decode bM_go 100 = .ok (.iconst 2, 1) := by decide +kernel
theorem dM_go_101 : decode bM_go 101 = .ok (.aload_n 0, 1) := by decide +kernel
theorem dM_go_102 : decode bM_go 102 = .ok (.getfield 119, 3) := by decide +kernel
theorem dM_go_105 : decode bM_go 105 = .ok (.imul, 1) := by decide +kernel
theorem dM_go_106 : decode bM_go 106 = .ok (.iconst 1, 1) := by decide +kernel
theorem dM_go_107 : decode bM_go 107 = .ok (.iadd, 1) := by decide +kernel
theorem dM_go_108 : decode bM_go 108 = .ok (.iconst 1, 1) := by decide +kernel
theorem dM_go_109 : decode bM_go 109 = .ok (.iastore, 1) := by decide +kernel
theorem dM_go_110 : decode bM_go 110 = .ok (.aload_n 0, 1) := by decide +kernel
theorem dM_go_111 : decode bM_go 111 = .ok (.dup, 1) := by decide +kernel
theorem dM_go_112 : decode bM_go 112 = .ok (.getfield 119, 3) := by decide +kernel
theorem dM_go_115 : decode bM_go 115 = .ok (.iconst 1, 1) := by decide +kernel
theorem dM_go_116 : decode bM_go 116 = .ok (.iadd, 1) := by decide +kernel
theorem dM_go_117 : decode bM_go 117 = .ok (.putfield 119, 3) := by decide +kernel
theorem dM_go_120 : decode bM_go 120 = .ok (.aload_n 0, 1) := by decide +kernel
theorem dM_go_121 : decode bM_go 121 = .ok (.iload_n 1, 1) := by decide +kernel
theorem dM_go_122 : decode bM_go 122 = .ok (.bipush 98, 2) := by decide +kernel
theorem dM_go_124 : decode bM_go 124 = .ok (.if_icmp .eq 9, 3) := by decide +kernel
theorem dM_go_127 : decode bM_go 127 = .ok (.iload_n 1, 1) := by decide +kernel
theorem dM_go_128 : decode bM_go 128 = .ok (.bipush 102, 2) := by decide +kernel
theorem dM_go_130 : decode bM_go 130 = .ok (.if_icmp .ne 7, 3) := by decide +kernel
theorem dM_go_133 : decode bM_go 133 = .ok (.iconst 1, 1) := by decide +kernel
theorem dM_go_134 : decode bM_go 134 = .ok (.goto 4, 3) := by decide +kernel
theorem dM_go_137 : decode bM_go 137 = .ok (.iconst 2, 1) := by decide +kernel
theorem dM_go_138 : decode bM_go 138 = .ok (.putfield 116, 3) := by decide +kernel
theorem dM_go_141 : decode bM_go 141 = .ok (.iconst 1, 1) := by decide +kernel
theorem dM_go_142 : decode bM_go 142 = .ok (.ireturn, 1) := by decide +kernel
theorem dM_faultOf_0 : decode bM_faultOf 0 = .ok (.aload_n 0, 1) := by decide +kernel
theorem dM_faultOf_1 : decode bM_faultOf 1 = .ok (.iconst 0, 1) := by decide +kernel
theorem dM_faultOf_2 : decode bM_faultOf 2 = .ok (.putfield 116, 3) := by decide +kernel
theorem dM_faultOf_5 : decode bM_faultOf 5 = .ok (.aload_n 0, 1) := by decide +kernel
theorem dM_faultOf_6 : decode bM_faultOf 6 = .ok (.iconst 0, 1) := by decide +kernel
theorem dM_faultOf_7 : decode bM_faultOf 7 = .ok (.putfield 119, 3) := by decide +kernel
theorem dM_faultOf_10 : decode bM_faultOf 10 = .ok (.iconst 0, 1) := by decide +kernel
theorem dM_faultOf_11 : decode bM_faultOf 11 = .ok (.istore_n 1, 1) := by decide +kernel
theorem dM_faultOf_12 : decode bM_faultOf 12 = .ok (.iload_n 1, 1) := by decide +kernel
theorem dM_faultOf_13 : decode bM_faultOf 13 = .ok (.aload_n 0, 1) := by decide +kernel
theorem dM_faultOf_14 : decode bM_faultOf 14 = .ok (.getfield 113, 3) := by decide +kernel
theorem dM_faultOf_17 : decode bM_faultOf 17 = .ok (.if_icmp .ge 22, 3) := by decide +kernel
theorem dM_faultOf_20 : decode bM_faultOf 20 = .ok (.aload_n 0, 1) := by decide +kernel
theorem dM_faultOf_21 : decode bM_faultOf 21 = .ok (.aload_n 0, 1) := by decide +kernel
theorem dM_faultOf_22 : decode bM_faultOf 22 = .ok (.getfield 13, 3) := by decide +kernel
theorem dM_faultOf_25 : decode bM_faultOf 25 = .ok (.iload_n 1, 1) := by decide +kernel
theorem dM_faultOf_26 : decode bM_faultOf 26 = .ok (.iaload, 1) := by decide +kernel
theorem dM_faultOf_27 : decode bM_faultOf 27 = .ok (.invokevirtual 129, 3) := by decide +kernel
theorem dM_faultOf_30 : decode bM_faultOf 30 = .ok (.ifCond .eq 9, 3) := by decide +kernel
theorem dM_faultOf_33 : decode bM_faultOf 33 = .ok (.iinc 1 1, 3) := by decide +kernel
theorem dM_faultOf_36 : decode bM_faultOf 36 = .ok (.goto (-24), 3) := by decide +kernel
theorem dM_faultOf_39 : decode bM_faultOf 39 = .ok (.iload_n 1, 1) := by decide +kernel
theorem dM_faultOf_40 : decode bM_faultOf 40 = .ok (.ireturn, 1) := by decide +kernel
theorem dM_fault_0 : decode bM_fault 0 = .ok (.aload_n 0, 1) := by decide +kernel
theorem dM_fault_1 : decode bM_fault 1 = .ok (.invokevirtual 132, 3) := by decide +kernel
theorem dM_fault_4 : decode bM_fault 4 = .ok (.ireturn, 1) := by decide +kernel
theorem dM_call_0 : decode bM_call 0 = .ok (.aload_n 0, 1) := by decide +kernel
theorem dM_call_1 : decode bM_call 1 = .ok (.invokevirtual 132, 3) := by decide +kernel
theorem dM_call_4 : decode bM_call 4 = .ok (.aload_n 0, 1) := by decide +kernel
theorem dM_call_5 : decode bM_call 5 = .ok (.getfield 113, 3) := by decide +kernel
theorem dM_call_8 : decode bM_call 8 = .ok (.if_icmp .lt 11, 3) := by decide +kernel
theorem dM_call_11 : decode bM_call 11 = .ok (.aload_n 0, 1) := by decide +kernel
theorem dM_call_12 : decode bM_call 12 = .ok (.getfield 116, 3) := by decide +kernel
theorem dM_call_15 : decode bM_call 15 = .ok (.iconst 2, 1) := by decide +kernel
theorem dM_call_16 : decode bM_call 16 = .ok (.if_icmp .eq 6, 3) := by decide +kernel
theorem dM_call_19 : decode bM_call 19 = .ok (.bipush (-103), 2) := by decide +kernel
theorem dM_call_21 : decode bM_call 21 = .ok (.ireturn, 1) := by decide +kernel
theorem dM_call_22 : decode bM_call 22 = .ok (.aload_n 0, 1) := by decide +kernel
theorem dM_call_23 : decode bM_call 23 = .ok (.getfield 136, 3) := by decide +kernel
theorem dM_call_26 : decode bM_call 26 = .ok (.bipush 8, 2) := by decide +kernel
theorem dM_call_28 : decode bM_call 28 = .ok (.if_icmp .ne 6, 3) := by decide +kernel
theorem dM_call_31 : decode bM_call 31 = .ok (.bipush (-104), 2) := by decide +kernel
theorem dM_call_33 : decode bM_call 33 = .ok (.ireturn, 1) := by decide +kernel
theorem dM_call_34 : decode bM_call 34 = .ok (.aload_n 0, 1) := by decide +kernel
theorem dM_call_35 : decode bM_call 35 = .ok (.getfield 16, 3) := by decide +kernel
theorem dM_call_38 : decode bM_call 38 = .ok (.bipush 9, 2) := by decide +kernel
theorem dM_call_40 : decode bM_call 40 = .ok (.aload_n 0, 1) := by decide +kernel
theorem dM_call_41 : decode bM_call 41 = .ok (.getfield 136, 3) := by decide +kernel
theorem dM_call_44 : decode bM_call 44 = .ok (.imul, 1) := by decide +kernel
theorem dM_call_45 : decode bM_call 45 = .ok (.aload_n 0, 1) := by decide +kernel
theorem dM_call_46 : decode bM_call 46 = .ok (.getfield 119, 3) := by decide +kernel
theorem dM_call_49 : decode bM_call 49 = .ok (.iastore, 1) := by decide +kernel
theorem dM_call_50 : decode bM_call 50 = .ok (.iconst 0, 1) := by decide +kernel
theorem dM_call_51 : decode bM_call 51 = .ok (.istore_n 1, 1) := by decide +kernel
theorem dM_call_52 : decode bM_call 52 = .ok (.iload_n 1, 1) := by decide +kernel
theorem dM_call_53 : decode bM_call 53 = .ok (.bipush 8, 2) := by decide +kernel
theorem dM_call_55 : decode bM_call 55 = .ok (.if_icmp .ge 31, 3) := by decide +kernel
theorem dM_call_58 : decode bM_call 58 = .ok (.aload_n 0, 1) := by decide +kernel
theorem dM_call_59 : decode bM_call 59 = .ok (.getfield 16, 3) := by decide +kernel
theorem dM_call_62 : decode bM_call 62 = .ok (.bipush 9, 2) := by decide +kernel
theorem dM_call_64 : decode bM_call 64 = .ok (.aload_n 0, 1) := by decide +kernel
theorem dM_call_65 : decode bM_call 65 = .ok (.getfield 136, 3) := by decide +kernel
theorem dM_call_68 : decode bM_call 68 = .ok (.imul, 1) := by decide +kernel
theorem dM_call_69 : decode bM_call 69 = .ok (.iconst 1, 1) := by decide +kernel
theorem dM_call_70 : decode bM_call 70 = .ok (.iadd, 1) := by decide +kernel
theorem dM_call_71 : decode bM_call 71 = .ok (.iload_n 1, 1) := by decide +kernel
theorem dM_call_72 : decode bM_call 72 = .ok (.iadd, 1) := by decide +kernel
theorem dM_call_73 : decode bM_call 73 = .ok (.aload_n 0, 1) := by decide +kernel
theorem dM_call_74 : decode bM_call 74 = .ok (.getfield 19, 3) := by decide +kernel
theorem dM_call_77 : decode bM_call 77 = .ok (.iload_n 1, 1) := by decide +kernel
theorem dM_call_78 : decode bM_call 78 = .ok (.iaload, 1) := by decide +kernel
theorem dM_call_79 : decode bM_call 79 = .ok (.iastore, 1) := by decide +kernel
theorem dM_call_80 : decode bM_call 80 = .ok (.iinc 1 1, 3) := by decide +kernel
theorem dM_call_83 : decode bM_call 83 = .ok (.goto (-31), 3) := by decide +kernel
theorem dM_call_86 : decode bM_call 86 = .ok (.aload_n 0, 1) := by decide +kernel
theorem dM_call_87 : decode bM_call 87 = .ok (.dup, 1) := by decide +kernel
theorem dM_call_88 : decode bM_call 88 = .ok (.getfield 136, 3) := by decide +kernel
theorem dM_call_91 : decode bM_call 91 = .ok (.iconst 1, 1) := by decide +kernel
theorem dM_call_92 : decode bM_call 92 = .ok (.iadd, 1) := by decide +kernel
theorem dM_call_93 : decode bM_call 93 = .ok (.putfield 136, 3) := by decide +kernel
theorem dM_call_96 : decode bM_call 96 = .ok (.aload_n 0, 1) := by decide +kernel
theorem dM_call_97 : decode bM_call 97 = .ok (.iconst 0, 1) := by decide +kernel
theorem dM_call_98 : decode bM_call 98 = .ok (.putfield 113, 3) := by decide +kernel
theorem dM_call_101 : decode bM_call 101 = .ok (.aload_n 0, 1) := by decide +kernel
theorem dM_call_102 : decode bM_call 102 = .ok (.getfield 136, 3) := by decide +kernel
theorem dM_call_105 : decode bM_call 105 = .ok (.iconst 1, 1) := by decide +kernel
theorem dM_call_106 : decode bM_call 106 = .ok (.isub, 1) := by decide +kernel
theorem dM_call_107 : decode bM_call 107 = .ok (.ireturn, 1) := by decide +kernel
theorem dM_isCall_0 : decode bM_isCall 0 = .ok (.iload_n 1, 1) := by decide +kernel
theorem dM_isCall_1 : decode bM_isCall 1 = .ok (.i2l, 1) := by decide +kernel
theorem dM_isCall_2 : decode bM_isCall 2 = .ok (.lconst 0, 1) := by decide +kernel
theorem dM_isCall_3 : decode bM_isCall 3 = .ok (.aload_n 0, 1) := by decide +kernel
theorem dM_isCall_4 : decode bM_isCall 4 = .ok (.getfield 136, 3) := by decide +kernel
theorem dM_isCall_7 : decode bM_isCall 7 = .ok (.iconst 1, 1) := by decide +kernel
theorem dM_isCall_8 : decode bM_isCall 8 = .ok (.isub, 1) := by decide +kernel
theorem dM_isCall_9 : decode bM_isCall 9 = .ok (.i2l, 1) := by decide +kernel
theorem dM_isCall_10 : decode bM_isCall 10 = .ok (.invokestatic 72, 3) := by decide +kernel
theorem dM_isCall_13 : decode bM_isCall 13 = .ok (.ireturn, 1) := by decide +kernel
theorem dM_sideOf_0 : decode bM_sideOf 0 = .ok (.aload_n 0, 1) := by decide +kernel
theorem dM_sideOf_1 : decode bM_sideOf 1 = .ok (.getfield 7, 3) := by decide +kernel
theorem dM_sideOf_4 : decode bM_sideOf 4 = .ok (.bipush 7, 2) := by decide +kernel
theorem dM_sideOf_6 : decode bM_sideOf 6 = .ok (.iload_n 1, 1) := by decide +kernel
theorem dM_sideOf_7 : decode bM_sideOf 7 = .ok (.imul, 1) := by decide +kernel
theorem dM_sideOf_8 : decode bM_sideOf 8 = .ok (.iconst 3, 1) := by decide +kernel
theorem dM_sideOf_9 : decode bM_sideOf 9 = .ok (.iadd, 1) := by decide +kernel
theorem dM_sideOf_10 : decode bM_sideOf 10 = .ok (.iaload, 1) := by decide +kernel
theorem dM_sideOf_11 : decode bM_sideOf 11 = .ok (.ireturn, 1) := by decide +kernel
theorem dM_depthOf_0 : decode bM_depthOf 0 = .ok (.aload_n 0, 1) := by decide +kernel
theorem dM_depthOf_1 : decode bM_depthOf 1 = .ok (.getfield 7, 3) := by decide +kernel
theorem dM_depthOf_4 : decode bM_depthOf 4 = .ok (.bipush 7, 2) := by decide +kernel
theorem dM_depthOf_6 : decode bM_depthOf 6 = .ok (.iload_n 1, 1) := by decide +kernel
theorem dM_depthOf_7 : decode bM_depthOf 7 = .ok (.imul, 1) := by decide +kernel
theorem dM_depthOf_8 : decode bM_depthOf 8 = .ok (.iconst 4, 1) := by decide +kernel
theorem dM_depthOf_9 : decode bM_depthOf 9 = .ok (.iadd, 1) := by decide +kernel
theorem dM_depthOf_10 : decode bM_depthOf 10 = .ok (.iaload, 1) := by decide +kernel
theorem dM_depthOf_11 : decode bM_depthOf 11 = .ok (.ireturn, 1) := by decide +kernel
theorem dM_layPeople_0 : decode bM_layPeople 0 = .ok (.aload_n 0, 1) := by decide +kernel
theorem dM_layPeople_1 : decode bM_layPeople 1 = .ok (.aload_n 0, 1) := by decide +kernel
theorem dM_layPeople_2 : decode bM_layPeople 2 = .ok (.getfield 80, 3) := by decide +kernel
theorem dM_layPeople_5 : decode bM_layPeople 5 = .ok (.putfield 139, 3) := by decide +kernel
theorem dM_layPeople_8 : decode bM_layPeople 8 = .ok (.iconst 0, 1) := by decide +kernel
theorem dM_layPeople_9 : decode bM_layPeople 9 = .ok (.istore_n 2, 1) := by decide +kernel
theorem dM_layPeople_10 : decode bM_layPeople 10 = .ok (.iload_n 2, 1) := by decide +kernel
theorem dM_layPeople_11 : decode bM_layPeople 11 = .ok (.aload_n 0, 1) := by decide +kernel
theorem dM_layPeople_12 : decode bM_layPeople 12 = .ok (.getfield 89, 3) := by decide +kernel
theorem dM_layPeople_15 : decode bM_layPeople 15 = .ok (.if_icmp .ge 62, 3) := by decide +kernel
theorem dM_layPeople_18 : decode bM_layPeople 18 = .ok (.aload_n 0, 1) := by decide +kernel
theorem dM_layPeople_19 : decode bM_layPeople 19 = .ok (.getfield 22, 3) := by decide +kernel
theorem dM_layPeople_22 : decode bM_layPeople 22 = .ok (.iload_n 2, 1) := by decide +kernel
theorem dM_layPeople_23 : decode bM_layPeople 23 = .ok (.aload_n 0, 1) := by decide +kernel
theorem dM_layPeople_24 : decode bM_layPeople 24 = .ok (.getfield 7, 3) := by decide +kernel
theorem dM_layPeople_27 : decode bM_layPeople 27 = .ok (.bipush 7, 2) := by decide +kernel
theorem dM_layPeople_29 : decode bM_layPeople 29 = .ok (.iload_n 2, 1) := by decide +kernel
theorem dM_layPeople_30 : decode bM_layPeople 30 = .ok (.imul, 1) := by decide +kernel
theorem dM_layPeople_31 : decode bM_layPeople 31 = .ok (.iconst 2, 1) := by decide +kernel
theorem dM_layPeople_32 : decode bM_layPeople 32 = .ok (.iadd, 1) := by decide +kernel
theorem dM_layPeople_33 : decode bM_layPeople 33 = .ok (.iaload, 1) := by decide +kernel
theorem dM_layPeople_34 : decode bM_layPeople 34 = .ok (.iastore, 1) := by decide +kernel
theorem dM_layPeople_35 : decode bM_layPeople 35 = .ok (.aload_n 0, 1) := by decide +kernel
theorem dM_layPeople_36 : decode bM_layPeople 36 = .ok (.getfield 25, 3) := by decide +kernel
theorem dM_layPeople_39 : decode bM_layPeople 39 = .ok (.iload_n 2, 1) := by decide +kernel
theorem dM_layPeople_40 : decode bM_layPeople 40 = .ok (.aload_n 0, 1) := by decide +kernel
theorem dM_layPeople_41 : decode bM_layPeople 41 = .ok (.getfield 7, 3) := by decide +kernel
theorem dM_layPeople_44 : decode bM_layPeople 44 = .ok (.bipush 7, 2) := by decide +kernel
theorem dM_layPeople_46 : decode bM_layPeople 46 = .ok (.iload_n 2, 1) := by decide +kernel
theorem dM_layPeople_47 : decode bM_layPeople 47 = .ok (.imul, 1) := by decide +kernel
theorem dM_layPeople_48 : decode bM_layPeople 48 = .ok (.iconst 5, 1) := by decide +kernel
theorem dM_layPeople_49 : decode bM_layPeople 49 = .ok (.iadd, 1) := by decide +kernel
theorem dM_layPeople_50 : decode bM_layPeople 50 = .ok (.iaload, 1) := by decide +kernel
theorem dM_layPeople_51 : decode bM_layPeople 51 = .ok (.iload_n 1, 1) := by decide +kernel
theorem dM_layPeople_52 : decode bM_layPeople 52 = .ok (.if_icmp .ge 17, 3) := by decide +kernel
theorem dM_layPeople_55 : decode bM_layPeople 55 = .ok (.aload_n 0, 1) := by decide +kernel
theorem dM_layPeople_56 : decode bM_layPeople 56 = .ok (.getfield 7, 3) := by decide +kernel
theorem dM_layPeople_59 : decode bM_layPeople 59 = .ok (.bipush 7, 2) := by decide +kernel
theorem dM_layPeople_61 : decode bM_layPeople 61 = .ok (.iload_n 2, 1) := by decide +kernel
theorem dM_layPeople_62 : decode bM_layPeople 62 = .ok (.imul, 1) := by decide +kernel
theorem dM_layPeople_63 : decode bM_layPeople 63 = .ok (.iconst 5, 1) := by decide +kernel
theorem dM_layPeople_64 : decode bM_layPeople 64 = .ok (.iadd, 1) := by decide +kernel
theorem dM_layPeople_65 : decode bM_layPeople 65 = .ok (.iaload, 1) := by decide +kernel
theorem dM_layPeople_66 : decode bM_layPeople 66 = .ok (.goto 4, 3) := by decide +kernel
theorem dM_layPeople_69 : decode bM_layPeople 69 = .ok (.iload_n 1, 1) := by decide +kernel
theorem dM_layPeople_70 : decode bM_layPeople 70 = .ok (.iastore, 1) := by decide +kernel
theorem dM_layPeople_71 : decode bM_layPeople 71 = .ok (.iinc 2 1, 3) := by decide +kernel
theorem dM_layPeople_74 : decode bM_layPeople 74 = .ok (.goto (-64), 3) := by decide +kernel
theorem dM_layPeople_77 : decode bM_layPeople 77 = .ok (.return_, 1) := by decide +kernel
theorem dM_valueOf_0 : decode bM_valueOf 0 = .ok (.iload_n 1, 1) := by decide +kernel
theorem dM_valueOf_1 : decode bM_valueOf 1 = .ok (.lookupswitch 112 #[(97, 91), (98, 59), (102, 75), (111, 106), (115, 97), (119, 84)], 59) := by decide +kernel
theorem dM_valueOf_60 : decode bM_valueOf 60 = .ok (.aload_n 0, 1) := by decide +kernel
theorem dM_valueOf_61 : decode bM_valueOf 61 = .ok (.getfield 139, 3) := by decide +kernel
theorem dM_valueOf_64 : decode bM_valueOf 64 = .ok (.iconst 1, 1) := by decide +kernel
theorem dM_valueOf_65 : decode bM_valueOf 65 = .ok (.isub, 1) := by decide +kernel
theorem dM_valueOf_66 : decode bM_valueOf 66 = .ok (.aload_n 0, 1) := by decide +kernel
theorem dM_valueOf_67 : decode bM_valueOf 67 = .ok (.getfield 22, 3) := by decide +kernel
theorem dM_valueOf_70 : decode bM_valueOf 70 = .ok (.iload_n 3, 1) := by decide +kernel
theorem dM_valueOf_71 : decode bM_valueOf 71 = .ok (.iaload, 1) := by decide +kernel
theorem dM_valueOf_72 : decode bM_valueOf 72 = .ok (.isub, 1) := by decide +kernel
theorem dM_valueOf_73 : decode bM_valueOf 73 = .ok (.iload_n 2, 1) := by decide +kernel
theorem dM_valueOf_74 : decode bM_valueOf 74 = .ok (.idiv, 1) := by decide +kernel
theorem dM_valueOf_75 : decode bM_valueOf 75 = .ok (.ireturn, 1) := by decide +kernel
theorem dM_valueOf_76 : decode bM_valueOf 76 = .ok (.aload_n 0, 1) := by decide +kernel
theorem dM_valueOf_77 : decode bM_valueOf 77 = .ok (.getfield 22, 3) := by decide +kernel
theorem dM_valueOf_80 : decode bM_valueOf 80 = .ok (.iload_n 3, 1) := by decide +kernel
theorem dM_valueOf_81 : decode bM_valueOf 81 = .ok (.iaload, 1) := by decide +kernel
theorem dM_valueOf_82 : decode bM_valueOf 82 = .ok (.iload_n 2, 1) := by decide +kernel
theorem dM_valueOf_83 : decode bM_valueOf 83 = .ok (.idiv, 1) := by decide +kernel
theorem dM_valueOf_84 : decode bM_valueOf 84 = .ok (.ireturn, 1) := by decide +kernel
theorem dM_valueOf_85 : decode bM_valueOf 85 = .ok (.aload_n 0, 1) := by decide +kernel
theorem dM_valueOf_86 : decode bM_valueOf 86 = .ok (.iload_n 3, 1) := by decide +kernel
theorem dM_valueOf_87 : decode bM_valueOf 87 = .ok (.invokevirtual 142, 3) := by decide +kernel
theorem dM_valueOf_90 : decode bM_valueOf 90 = .ok (.ineg, 1) := by decide +kernel
theorem dM_valueOf_91 : decode bM_valueOf 91 = .ok (.ireturn, 1) := by decide +kernel
theorem dM_valueOf_92 : decode bM_valueOf 92 = .ok (.aload_n 0, 1) := by decide +kernel
theorem dM_valueOf_93 : decode bM_valueOf 93 = .ok (.iload_n 3, 1) := by decide +kernel
theorem dM_valueOf_94 : decode bM_valueOf 94 = .ok (.invokevirtual 142, 3) := by decide +kernel
theorem dM_valueOf_97 : decode bM_valueOf 97 = .ok (.ireturn, 1) := by decide +kernel
theorem dM_valueOf_98 : decode bM_valueOf 98 = .ok (.aload_n 0, 1) := by decide +kernel
theorem dM_valueOf_99 : decode bM_valueOf 99 = .ok (.getfield 22, 3) := by decide +kernel
theorem dM_valueOf_102 : decode bM_valueOf 102 = .ok (.iload_n 3, 1) := by decide +kernel
theorem dM_valueOf_103 : decode bM_valueOf 103 = .ok (.iaload, 1) := by decide +kernel
theorem dM_valueOf_104 : decode bM_valueOf 104 = .ok (.iconst 2, 1) := by decide +kernel
theorem dM_valueOf_105 : decode bM_valueOf 105 = .ok (.irem, 1) := by decide +kernel
theorem dM_valueOf_106 : decode bM_valueOf 106 = .ok (.ireturn, 1) := by decide +kernel
theorem dM_valueOf_107 : decode bM_valueOf 107 = .ok (.aload_n 0, 1) := by decide +kernel
theorem dM_valueOf_108 : decode bM_valueOf 108 = .ok (.iload_n 3, 1) := by decide +kernel
theorem dM_valueOf_109 : decode bM_valueOf 109 = .ok (.invokevirtual 146, 3) := by decide +kernel
theorem dM_valueOf_112 : decode bM_valueOf 112 = .ok (.ireturn, 1) := by decide +kernel
theorem dM_valueOf_113 : decode bM_valueOf 113 = .ok (.aload_n 0, 1) := by decide +kernel
theorem dM_valueOf_114 : decode bM_valueOf 114 = .ok (.getfield 25, 3) := by decide +kernel
theorem dM_valueOf_117 : decode bM_valueOf 117 = .ok (.iload_n 3, 1) := by decide +kernel
theorem dM_valueOf_118 : decode bM_valueOf 118 = .ok (.iaload, 1) := by decide +kernel
theorem dM_valueOf_119 : decode bM_valueOf 119 = .ok (.ireturn, 1) := by decide +kernel
theorem dM_rank_0 : decode bM_rank 0 = .ok (.iload_n 0, 1) := by decide +kernel
theorem dM_rank_1 : decode bM_rank 1 = .ok (.iconst 2, 1) := by decide +kernel
theorem dM_rank_2 : decode bM_rank 2 = .ok (.if_icmp .ne 7, 3) := by decide +kernel
theorem dM_rank_5 : decode bM_rank 5 = .ok (.iconst 0, 1) := by decide +kernel
theorem dM_rank_6 : decode bM_rank 6 = .ok (.goto 13, 3) := by decide +kernel
theorem dM_rank_9 : decode bM_rank 9 = .ok (.iload_n 0, 1) := by decide +kernel
theorem dM_rank_10 : decode bM_rank 10 = .ok (.iconst 1, 1) := by decide +kernel
theorem dM_rank_11 : decode bM_rank 11 = .ok (.if_icmp .ne 7, 3) := by decide +kernel
theorem dM_rank_14 : decode bM_rank 14 = .ok (.iconst 2, 1) := by decide +kernel
theorem dM_rank_15 : decode bM_rank 15 = .ok (.goto 4, 3) := by decide +kernel
theorem dM_rank_18 : decode bM_rank 18 = .ok (.iconst 1, 1) := by decide +kernel
theorem dM_rank_19 : decode bM_rank 19 = .ok (.ireturn, 1) := by decide +kernel
theorem dM_isAhead_0 : decode bM_isAhead 0 = .ok (.aload_n 0, 1) := by decide +kernel
theorem dM_isAhead_1 : decode bM_isAhead 1 = .ok (.getfield 7, 3) := by decide +kernel
theorem dM_isAhead_4 : decode bM_isAhead 4 = .ok (.bipush 7, 2) := by decide +kernel
theorem dM_isAhead_6 : decode bM_isAhead 6 = .ok (.iload_n 2, 1) := by decide +kernel
theorem dM_isAhead_7 : decode bM_isAhead 7 = .ok (.imul, 1) := by decide +kernel
theorem dM_isAhead_8 : decode bM_isAhead 8 = .ok (.iaload, 1) := by decide +kernel
theorem dM_isAhead_9 : decode bM_isAhead 9 = .ok (.invokestatic 149, 3) := by decide +kernel
theorem dM_isAhead_12 : decode bM_isAhead 12 = .ok (.aload_n 0, 1) := by decide +kernel
theorem dM_isAhead_13 : decode bM_isAhead 13 = .ok (.getfield 7, 3) := by decide +kernel
theorem dM_isAhead_16 : decode bM_isAhead 16 = .ok (.bipush 7, 2) := by decide +kernel
theorem dM_isAhead_18 : decode bM_isAhead 18 = .ok (.iload_n 3, 1) := by decide +kernel
theorem dM_isAhead_19 : decode bM_isAhead 19 = .ok (.imul, 1) := by decide +kernel
theorem dM_isAhead_20 : decode bM_isAhead 20 = .ok (.iaload, 1) := by decide +kernel
theorem dM_isAhead_21 : decode bM_isAhead 21 = .ok (.invokestatic 149, 3) := by decide +kernel
theorem dM_isAhead_24 : decode bM_isAhead 24 = .ok (.isub, 1) := by decide +kernel
theorem dM_isAhead_25 : decode bM_isAhead 25 = .ok (.istore 4, 2) := by decide +kernel
theorem dM_isAhead_27 : decode bM_isAhead 27 = .ok (.iconst 0, 1) := by decide +kernel
theorem dM_isAhead_28 : decode bM_isAhead 28 = .ok (.istore 5, 2) := by decide +kernel
theorem dM_isAhead_30 : decode bM_isAhead 30 = .ok (.iload 5, 2) := by decide +kernel
theorem dM_isAhead_32 : decode bM_isAhead 32 = .ok (.aload_n 0, 1) := by decide +kernel
theorem dM_isAhead_33 : decode bM_isAhead 33 = .ok (.getfield 16, 3) := by decide +kernel
theorem dM_isAhead_36 : decode bM_isAhead 36 = .ok (.bipush 9, 2) := by decide +kernel
theorem dM_isAhead_38 : decode bM_isAhead 38 = .ok (.iload_n 1, 1) := by decide +kernel
theorem dM_isAhead_39 : decode bM_isAhead 39 = .ok (.imul, 1) := by decide +kernel
theorem dM_isAhead_40 : decode bM_isAhead 40 = .ok (.iaload, 1) := by decide +kernel
theorem dM_isAhead_41 : decode bM_isAhead 41 = .ok (.if_icmp .ge 71, 3) := by decide +kernel
theorem dM_isAhead_44 : decode bM_isAhead 44 = .ok (.iload 4, 2) := by decide +kernel
theorem dM_isAhead_46 : decode bM_isAhead 46 = .ok (.ifCond .ne 66, 3) := by decide +kernel
theorem dM_isAhead_49 : decode bM_isAhead 49 = .ok (.aload_n 0, 1) := by decide +kernel
theorem dM_isAhead_50 : decode bM_isAhead 50 = .ok (.getfield 16, 3) := by decide +kernel
theorem dM_isAhead_53 : decode bM_isAhead 53 = .ok (.bipush 9, 2) := by decide +kernel
theorem dM_isAhead_55 : decode bM_isAhead 55 = .ok (.iload_n 1, 1) := by decide +kernel
theorem dM_isAhead_56 : decode bM_isAhead 56 = .ok (.imul, 1) := by decide +kernel
theorem dM_isAhead_57 : decode bM_isAhead 57 = .ok (.iconst 1, 1) := by decide +kernel
theorem dM_isAhead_58 : decode bM_isAhead 58 = .ok (.iadd, 1) := by decide +kernel
theorem dM_isAhead_59 : decode bM_isAhead 59 = .ok (.iconst 2, 1) := by decide +kernel
theorem dM_isAhead_60 : decode bM_isAhead 60 = .ok (.iload 5, 2) := by decide +kernel
theorem dM_isAhead_62 : decode bM_isAhead 62 = .ok (.imul, 1) := by decide +kernel
theorem dM_isAhead_63 : decode bM_isAhead 63 = .ok (.iadd, 1) := by decide +kernel
theorem dM_isAhead_64 : decode bM_isAhead 64 = .ok (.iaload, 1) := by decide +kernel
theorem dM_isAhead_65 : decode bM_isAhead 65 = .ok (.istore 6, 2) := by decide +kernel
theorem dM_isAhead_67 : decode bM_isAhead 67 = .ok (.aload_n 0, 1) := by decide +kernel
theorem dM_isAhead_68 : decode bM_isAhead 68 = .ok (.getfield 16, 3) := by decide +kernel
theorem dM_isAhead_71 : decode bM_isAhead 71 = .ok (.bipush 9, 2) := by decide +kernel
theorem dM_isAhead_73 : decode bM_isAhead 73 = .ok (.iload_n 1, 1) := by decide +kernel
theorem dM_isAhead_74 : decode bM_isAhead 74 = .ok (.imul, 1) := by decide +kernel
theorem dM_isAhead_75 : decode bM_isAhead 75 = .ok (.iconst 2, 1) := by decide +kernel
theorem dM_isAhead_76 : decode bM_isAhead 76 = .ok (.iadd, 1) := by decide +kernel
theorem dM_isAhead_77 : decode bM_isAhead 77 = .ok (.iconst 2, 1) := by decide +kernel
theorem dM_isAhead_78 : decode bM_isAhead 78 = .ok (.iload 5, 2) := by decide +kernel
theorem dM_isAhead_80 : decode bM_isAhead 80 = .ok (.imul, 1) := by decide +kernel
theorem dM_isAhead_81 : decode bM_isAhead 81 = .ok (.iadd, 1) := by decide +kernel
theorem dM_isAhead_82 : decode bM_isAhead 82 = .ok (.iaload, 1) := by decide +kernel
theorem dM_isAhead_83 : decode bM_isAhead 83 = .ok (.istore 7, 2) := by decide +kernel
theorem dM_isAhead_85 : decode bM_isAhead 85 = .ok (.aload_n 0, 1) := by decide +kernel
theorem dM_isAhead_86 : decode bM_isAhead 86 = .ok (.iload 6, 2) := by decide +kernel
theorem dM_isAhead_88 : decode bM_isAhead 88 = .ok (.iload 7, 2) := by decide +kernel
theorem dM_isAhead_90 : decode bM_isAhead 90 = .ok (.iload_n 2, 1) := by decide +kernel
theorem dM_isAhead_91 : decode bM_isAhead 91 = .ok (.invokevirtual 152, 3) := by decide +kernel
theorem dM_isAhead_94 : decode bM_isAhead 94 = .ok (.aload_n 0, 1) := by decide +kernel
theorem dM_isAhead_95 : decode bM_isAhead 95 = .ok (.iload 6, 2) := by decide +kernel
theorem dM_isAhead_97 : decode bM_isAhead 97 = .ok (.iload 7, 2) := by decide +kernel
theorem dM_isAhead_99 : decode bM_isAhead 99 = .ok (.iload_n 3, 1) := by decide +kernel
theorem dM_isAhead_100 : decode bM_isAhead 100 = .ok (.invokevirtual 152, 3) := by decide +kernel
theorem dM_isAhead_103 : decode bM_isAhead 103 = .ok (.isub, 1) := by decide +kernel
theorem dM_isAhead_104 : decode bM_isAhead 104 = .ok (.istore 4, 2) := by decide +kernel
theorem dM_isAhead_106 : decode bM_isAhead 106 = .ok (.iinc 5 1, 3) := by decide +kernel
theorem dM_isAhead_109 : decode bM_isAhead 109 = .ok (.goto (-79), 3) := by decide +kernel
theorem dM_isAhead_112 : decode bM_isAhead 112 = .ok (.iload 4, 2) := by decide +kernel
theorem dM_isAhead_114 : decode bM_isAhead 114 = .ok (.ifCond .lt 13, 3) := by decide +kernel
theorem dM_isAhead_117 : decode bM_isAhead 117 = .ok (.iload 4, 2) := by decide +kernel
theorem dM_isAhead_119 : decode bM_isAhead 119 = .ok (.ifCond .ne 12, 3) := by decide +kernel
theorem dM_isAhead_122 : decode bM_isAhead 122 = .ok (.iload_n 2, 1) := by decide +kernel
theorem dM_isAhead_123 : decode bM_isAhead 123 = .ok (.iload_n 3, 1) := by decide +kernel
theorem dM_isAhead_124 : decode bM_isAhead 124 = .ok (.if_icmp .ge 7, 3) := by decide +kernel
theorem dM_isAhead_127 : decode bM_isAhead 127 = .ok (.iconst 1, 1) := by decide +kernel
theorem dM_isAhead_128 : decode bM_isAhead 128 = .ok (.goto 4, 3) := by decide +kernel
theorem dM_isAhead_131 : decode bM_isAhead 131 = .ok (.iconst 0, 1) := by decide +kernel
theorem dM_isAhead_132 : decode bM_isAhead 132 = .ok (.ireturn, 1) := by decide +kernel
theorem dM_placeOf_0 : decode bM_placeOf 0 = .ok (.iconst 0, 1) := by decide +kernel
theorem dM_placeOf_1 : decode bM_placeOf 1 = .ok (.istore_n 2, 1) := by decide +kernel
theorem dM_placeOf_2 : decode bM_placeOf 2 = .ok (.iload_n 2, 1) := by decide +kernel
theorem dM_placeOf_3 : decode bM_placeOf 3 = .ok (.aload_n 0, 1) := by decide +kernel
theorem dM_placeOf_4 : decode bM_placeOf 4 = .ok (.getfield 156, 3) := by decide +kernel
theorem dM_placeOf_7 : decode bM_placeOf 7 = .ok (.if_icmp .ge 21, 3) := by decide +kernel
theorem dM_placeOf_10 : decode bM_placeOf 10 = .ok (.aload_n 0, 1) := by decide +kernel
theorem dM_placeOf_11 : decode bM_placeOf 11 = .ok (.getfield 28, 3) := by decide +kernel
theorem dM_placeOf_14 : decode bM_placeOf 14 = .ok (.iload_n 2, 1) := by decide +kernel
theorem dM_placeOf_15 : decode bM_placeOf 15 = .ok (.iaload, 1) := by decide +kernel
theorem dM_placeOf_16 : decode bM_placeOf 16 = .ok (.iload_n 1, 1) := by decide +kernel
theorem dM_placeOf_17 : decode bM_placeOf 17 = .ok (.if_icmp .ne 5, 3) := by decide +kernel
theorem dM_placeOf_20 : decode bM_placeOf 20 = .ok (.iload_n 2, 1) := by decide +kernel
theorem dM_placeOf_21 : decode bM_placeOf 21 = .ok (.ireturn, 1) := by decide +kernel
theorem dM_placeOf_22 : decode bM_placeOf 22 = .ok (.iinc 2 1, 3) := by decide +kernel
theorem dM_placeOf_25 : decode bM_placeOf 25 = .ok (.goto (-23), 3) := by decide +kernel
theorem dM_placeOf_28 : decode bM_placeOf 28 = .ok (.iconst (-1), 1) := by decide +kernel
theorem dM_placeOf_29 : decode bM_placeOf 29 = .ok (.ireturn, 1) := by decide +kernel
theorem dM_put_0 : decode bM_put 0 = .ok (.aload_n 0, 1) := by decide +kernel
theorem dM_put_1 : decode bM_put 1 = .ok (.iload_n 1, 1) := by decide +kernel
theorem dM_put_2 : decode bM_put 2 = .ok (.invokevirtual 159, 3) := by decide +kernel
theorem dM_put_5 : decode bM_put 5 = .ok (.istore_n 3, 1) := by decide +kernel
theorem dM_put_6 : decode bM_put 6 = .ok (.iload_n 3, 1) := by decide +kernel
theorem dM_put_7 : decode bM_put 7 = .ok (.istore 4, 2) := by decide +kernel
theorem dM_put_9 : decode bM_put 9 = .ok (.iload 4, 2) := by decide +kernel
theorem dM_put_11 : decode bM_put 11 = .ok (.aload_n 0, 1) := by decide +kernel
theorem dM_put_12 : decode bM_put 12 = .ok (.getfield 156, 3) := by decide +kernel
theorem dM_put_15 : decode bM_put 15 = .ok (.iconst 1, 1) := by decide +kernel
theorem dM_put_16 : decode bM_put 16 = .ok (.isub, 1) := by decide +kernel
theorem dM_put_17 : decode bM_put 17 = .ok (.if_icmp .ge 25, 3) := by decide +kernel
theorem dM_put_20 : decode bM_put 20 = .ok (.aload_n 0, 1) := by decide +kernel
theorem dM_put_21 : decode bM_put 21 = .ok (.getfield 28, 3) := by decide +kernel
theorem dM_put_24 : decode bM_put 24 = .ok (.iload 4, 2) := by decide +kernel
theorem dM_put_26 : decode bM_put 26 = .ok (.aload_n 0, 1) := by decide +kernel
theorem dM_put_27 : decode bM_put 27 = .ok (.getfield 28, 3) := by decide +kernel
theorem dM_put_30 : decode bM_put 30 = .ok (.iload 4, 2) := by decide +kernel
theorem dM_put_32 : decode bM_put 32 = .ok (.iconst 1, 1) := by decide +kernel
theorem dM_put_33 : decode bM_put 33 = .ok (.iadd, 1) := by decide +kernel
theorem dM_put_34 : decode bM_put 34 = .ok (.iaload, 1) := by decide +kernel
theorem dM_put_35 : decode bM_put 35 = .ok (.iastore, 1) := by decide +kernel
theorem dM_put_36 : decode bM_put 36 = .ok (.iinc 4 1, 3) := by decide +kernel
theorem dM_put_39 : decode bM_put 39 = .ok (.goto (-30), 3) := by decide +kernel
theorem dM_put_42 : decode bM_put 42 = .ok (.aload_n 0, 1) := by decide +kernel
theorem dM_put_43 : decode bM_put 43 = .ok (.dup, 1) := by decide +kernel
theorem dM_put_44 : decode bM_put 44 = .ok (.getfield 156, 3) := by decide +kernel
theorem dM_put_47 : decode bM_put 47 = .ok (.iconst 1, 1) := by decide +kernel
theorem dM_put_48 : decode bM_put 48 = .ok (.isub, 1) := by decide +kernel
theorem dM_put_49 : decode bM_put 49 = .ok (.putfield 156, 3) := by decide +kernel
theorem dM_put_52 : decode bM_put 52 = .ok (.aload_n 0, 1) := by decide +kernel
theorem dM_put_53 : decode bM_put 53 = .ok (.iload_n 2, 1) := by decide +kernel
theorem dM_put_54 : decode bM_put 54 = .ok (.invokevirtual 159, 3) := by decide +kernel
theorem dM_put_57 : decode bM_put 57 = .ok (.iconst 1, 1) := by decide +kernel
theorem dM_put_58 : decode bM_put 58 = .ok (.iadd, 1) := by decide +kernel
theorem dM_put_59 : decode bM_put 59 = .ok (.istore 4, 2) := by decide +kernel
theorem dM_put_61 : decode bM_put 61 = .ok (.aload_n 0, 1) := by decide +kernel
theorem dM_put_62 : decode bM_put 62 = .ok (.getfield 156, 3) := by decide +kernel
theorem dM_put_65 : decode bM_put 65 = .ok (.istore 5, 2) := by decide +kernel
theorem dM_put_67 : decode bM_put 67 = .ok (.iload 5, 2) := by decide +kernel
theorem dM_put_69 : decode bM_put 69 = .ok (.iload 4, 2) := by decide +kernel
theorem dM_put_71 : decode bM_put 71 = .ok (.if_icmp .le 25, 3) := by decide +kernel
theorem dM_put_74 : decode bM_put 74 = .ok (.aload_n 0, 1) := by decide +kernel
theorem dM_put_75 : decode bM_put 75 = .ok (.getfield 28, 3) := by decide +kernel
theorem dM_put_78 : decode bM_put 78 = .ok (.iload 5, 2) := by decide +kernel
theorem dM_put_80 : decode bM_put 80 = .ok (.aload_n 0, 1) := by decide +kernel
theorem dM_put_81 : decode bM_put 81 = .ok (.getfield 28, 3) := by decide +kernel
theorem dM_put_84 : decode bM_put 84 = .ok (.iload 5, 2) := by decide +kernel
theorem dM_put_86 : decode bM_put 86 = .ok (.iconst 1, 1) := by decide +kernel
theorem dM_put_87 : decode bM_put 87 = .ok (.isub, 1) := by decide +kernel
theorem dM_put_88 : decode bM_put 88 = .ok (.iaload, 1) := by decide +kernel
theorem dM_put_89 : decode bM_put 89 = .ok (.iastore, 1) := by decide +kernel
theorem dM_put_90 : decode bM_put 90 = .ok (.iinc 5 (-1), 3) := by decide +kernel
theorem dM_put_93 : decode bM_put 93 = .ok (.goto (-26), 3) := by decide +kernel
theorem dM_put_96 : decode bM_put 96 = .ok (.aload_n 0, 1) := by decide +kernel
theorem dM_put_97 : decode bM_put 97 = .ok (.getfield 28, 3) := by decide +kernel
theorem dM_put_100 : decode bM_put 100 = .ok (.iload 4, 2) := by decide +kernel
theorem dM_put_102 : decode bM_put 102 = .ok (.iload_n 1, 1) := by decide +kernel
theorem dM_put_103 : decode bM_put 103 = .ok (.iastore, 1) := by decide +kernel
theorem dM_put_104 : decode bM_put 104 = .ok (.aload_n 0, 1) := by decide +kernel
theorem dM_put_105 : decode bM_put 105 = .ok (.dup, 1) := by decide +kernel
theorem dM_put_106 : decode bM_put 106 = .ok (.getfield 156, 3) := by decide +kernel
theorem dM_put_109 : decode bM_put 109 = .ok (.iconst 1, 1) := by decide +kernel
theorem dM_put_110 : decode bM_put 110 = .ok (.iadd, 1) := by decide +kernel
theorem dM_put_111 : decode bM_put 111 = .ok (.putfield 156, 3) := by decide +kernel
theorem dM_put_114 : decode bM_put 114 = .ok (.return_, 1) := by decide +kernel
theorem dM_layOrder_0 : decode bM_layOrder 0 = .ok (.aload_n 0, 1) := by decide +kernel
theorem dM_layOrder_1 : decode bM_layOrder 1 = .ok (.iconst 0, 1) := by decide +kernel
theorem dM_layOrder_2 : decode bM_layOrder 2 = .ok (.putfield 156, 3) := by decide +kernel
theorem dM_layOrder_5 : decode bM_layOrder 5 = .ok (.iconst 0, 1) := by decide +kernel
theorem dM_layOrder_6 : decode bM_layOrder 6 = .ok (.istore_n 2, 1) := by decide +kernel
theorem dM_layOrder_7 : decode bM_layOrder 7 = .ok (.iload_n 2, 1) := by decide +kernel
theorem dM_layOrder_8 : decode bM_layOrder 8 = .ok (.aload_n 0, 1) := by decide +kernel
theorem dM_layOrder_9 : decode bM_layOrder 9 = .ok (.getfield 89, 3) := by decide +kernel
theorem dM_layOrder_12 : decode bM_layOrder 12 = .ok (.if_icmp .ge 72, 3) := by decide +kernel
theorem dM_layOrder_15 : decode bM_layOrder 15 = .ok (.aload_n 0, 1) := by decide +kernel
theorem dM_layOrder_16 : decode bM_layOrder 16 = .ok (.getfield 156, 3) := by decide +kernel
theorem dM_layOrder_19 : decode bM_layOrder 19 = .ok (.istore_n 3, 1) := by decide +kernel
theorem dM_layOrder_20 : decode bM_layOrder 20 = .ok (.iload_n 3, 1) := by decide +kernel
theorem dM_layOrder_21 : decode bM_layOrder 21 = .ok (.ifCond .le 40, 3) := by decide +kernel
theorem dM_layOrder_24 : decode bM_layOrder 24 = .ok (.aload_n 0, 1) := by decide +kernel
theorem dM_layOrder_25 : decode bM_layOrder 25 = .ok (.iload_n 1, 1) := by decide +kernel
theorem dM_layOrder_26 : decode bM_layOrder 26 = .ok (.iload_n 2, 1) := by decide +kernel
theorem dM_layOrder_27 : decode bM_layOrder 27 = .ok (.aload_n 0, 1) := by decide +kernel
theorem dM_layOrder_28 : decode bM_layOrder 28 = .ok (.getfield 28, 3) := by decide +kernel
theorem dM_layOrder_31 : decode bM_layOrder 31 = .ok (.iload_n 3, 1) := by decide +kernel
theorem dM_layOrder_32 : decode bM_layOrder 32 = .ok (.iconst 1, 1) := by decide +kernel
theorem dM_layOrder_33 : decode bM_layOrder 33 = .ok (.isub, 1) := by decide +kernel
theorem dM_layOrder_34 : decode bM_layOrder 34 = .ok (.iaload, 1) := by decide +kernel
theorem dM_layOrder_35 : decode bM_layOrder 35 = .ok (.invokevirtual 162, 3) := by decide +kernel
theorem dM_layOrder_38 : decode bM_layOrder 38 = .ok (.ifCond .eq 23, 3) := by decide +kernel
theorem dM_layOrder_41 : decode bM_layOrder 41 = .ok (.aload_n 0, 1) := by decide +kernel
theorem dM_layOrder_42 : decode bM_layOrder 42 = .ok (.getfield 28, 3) := by decide +kernel
theorem dM_layOrder_45 : decode bM_layOrder 45 = .ok (.iload_n 3, 1) := by decide +kernel
theorem dM_layOrder_46 : decode bM_layOrder 46 = .ok (.aload_n 0, 1) := by decide +kernel
theorem dM_layOrder_47 : decode bM_layOrder 47 = .ok (.getfield 28, 3) := by decide +kernel
theorem dM_layOrder_50 : decode bM_layOrder 50 = .ok (.iload_n 3, 1) := by decide +kernel
theorem dM_layOrder_51 : decode bM_layOrder 51 = .ok (.iconst 1, 1) := by decide +kernel
theorem dM_layOrder_52 : decode bM_layOrder 52 = .ok (.isub, 1) := by decide +kernel
theorem dM_layOrder_53 : decode bM_layOrder 53 = .ok (.iaload, 1) := by decide +kernel
theorem dM_layOrder_54 : decode bM_layOrder 54 = .ok (.iastore, 1) := by decide +kernel
theorem dM_layOrder_55 : decode bM_layOrder 55 = .ok (.iinc 3 (-1), 3) := by decide +kernel
theorem dM_layOrder_58 : decode bM_layOrder 58 = .ok (.goto (-38), 3) := by decide +kernel
theorem dM_layOrder_61 : decode bM_layOrder 61 = .ok (.aload_n 0, 1) := by decide +kernel
theorem dM_layOrder_62 : decode bM_layOrder 62 = .ok (.getfield 28, 3) := by decide +kernel
theorem dM_layOrder_65 : decode bM_layOrder 65 = .ok (.iload_n 3, 1) := by decide +kernel
theorem dM_layOrder_66 : decode bM_layOrder 66 = .ok (.iload_n 2, 1) := by decide +kernel
theorem dM_layOrder_67 : decode bM_layOrder 67 = .ok (.iastore, 1) := by decide +kernel
theorem dM_layOrder_68 : decode bM_layOrder 68 = .ok (.aload_n 0, 1) := by decide +kernel
theorem dM_layOrder_69 : decode bM_layOrder 69 = .ok (.dup, 1) := by decide +kernel
theorem dM_layOrder_70 : decode bM_layOrder 70 = .ok (.getfield 156, 3) := by decide +kernel
theorem dM_layOrder_73 : decode bM_layOrder 73 = .ok (.iconst 1, 1) := by decide +kernel
theorem dM_layOrder_74 : decode bM_layOrder 74 = .ok (.iadd, 1) := by decide +kernel
theorem dM_layOrder_75 : decode bM_layOrder 75 = .ok (.putfield 156, 3) := by decide +kernel
theorem dM_layOrder_78 : decode bM_layOrder 78 = .ok (.iinc 2 1, 3) := by decide +kernel
theorem dM_layOrder_81 : decode bM_layOrder 81 = .ok (.goto (-74), 3) := by decide +kernel
theorem dM_layOrder_84 : decode bM_layOrder 84 = .ok (.iconst 0, 1) := by decide +kernel
theorem dM_layOrder_85 : decode bM_layOrder 85 = .ok (.istore_n 2, 1) := by decide +kernel
theorem dM_layOrder_86 : decode bM_layOrder 86 = .ok (.iload_n 2, 1) := by decide +kernel
theorem dM_layOrder_87 : decode bM_layOrder 87 = .ok (.aload_n 0, 1) := by decide +kernel
theorem dM_layOrder_88 : decode bM_layOrder 88 = .ok (.getfield 89, 3) := by decide +kernel
theorem dM_layOrder_91 : decode bM_layOrder 91 = .ok (.if_icmp .ge 38, 3) := by decide +kernel
theorem dM_layOrder_94 : decode bM_layOrder 94 = .ok (.aload_n 0, 1) := by decide +kernel
theorem dM_layOrder_95 : decode bM_layOrder 95 = .ok (.getfield 7, 3) := by decide +kernel
theorem dM_layOrder_98 : decode bM_layOrder 98 = .ok (.bipush 7, 2) := by decide +kernel
theorem dM_layOrder_100 : decode bM_layOrder 100 = .ok (.iload_n 2, 1) := by decide +kernel
theorem dM_layOrder_101 : decode bM_layOrder 101 = .ok (.imul, 1) := by decide +kernel
theorem dM_layOrder_102 : decode bM_layOrder 102 = .ok (.iaload, 1) := by decide +kernel
theorem dM_layOrder_103 : decode bM_layOrder 103 = .ok (.iconst 3, 1) := by decide +kernel
theorem dM_layOrder_104 : decode bM_layOrder 104 = .ok (.if_icmp .ne 19, 3) := by decide +kernel
theorem dM_layOrder_107 : decode bM_layOrder 107 = .ok (.aload_n 0, 1) := by decide +kernel
theorem dM_layOrder_108 : decode bM_layOrder 108 = .ok (.iload_n 2, 1) := by decide +kernel
theorem dM_layOrder_109 : decode bM_layOrder 109 = .ok (.aload_n 0, 1) := by decide +kernel
theorem dM_layOrder_110 : decode bM_layOrder 110 = .ok (.getfield 7, 3) := by decide +kernel
theorem dM_layOrder_113 : decode bM_layOrder 113 = .ok (.bipush 7, 2) := by decide +kernel
theorem dM_layOrder_115 : decode bM_layOrder 115 = .ok (.iload_n 2, 1) := by decide +kernel
theorem dM_layOrder_116 : decode bM_layOrder 116 = .ok (.imul, 1) := by decide +kernel
theorem dM_layOrder_117 : decode bM_layOrder 117 = .ok (.iconst 1, 1) := by decide +kernel
theorem dM_layOrder_118 : decode bM_layOrder 118 = .ok (.iadd, 1) := by decide +kernel
theorem dM_layOrder_119 : decode bM_layOrder 119 = .ok (.iaload, 1) := by decide +kernel
theorem dM_layOrder_120 : decode bM_layOrder 120 = .ok (.invokevirtual 165, 3) := by decide +kernel
theorem dM_layOrder_123 : decode bM_layOrder 123 = .ok (.iinc 2 1, 3) := by decide +kernel
theorem dM_layOrder_126 : decode bM_layOrder 126 = .ok (.goto (-40), 3) := by decide +kernel
theorem dM_layOrder_129 : decode bM_layOrder 129 = .ok (.return_, 1) := by decide +kernel
theorem dM_everybody_0 : decode bM_everybody 0 = .ok (.iconst 1, 1) := by decide +kernel
theorem dM_everybody_1 : decode bM_everybody 1 = .ok (.aload_n 0, 1) := by decide +kernel
theorem dM_everybody_2 : decode bM_everybody 2 = .ok (.getfield 89, 3) := by decide +kernel
theorem dM_everybody_5 : decode bM_everybody 5 = .ok (.ishl, 1) := by decide +kernel
theorem dM_everybody_6 : decode bM_everybody 6 = .ok (.iconst 1, 1) := by decide +kernel
theorem dM_everybody_7 : decode bM_everybody 7 = .ok (.isub, 1) := by decide +kernel
theorem dM_everybody_8 : decode bM_everybody 8 = .ok (.ireturn, 1) := by decide +kernel
theorem dM_order_0 : decode bM_order 0 = .ok (.aload_n 0, 1) := by decide +kernel
theorem dM_order_1 : decode bM_order 1 = .ok (.iload_n 1, 1) := by decide +kernel
theorem dM_order_2 : decode bM_order 2 = .ok (.invokevirtual 169, 3) := by decide +kernel
theorem dM_order_5 : decode bM_order 5 = .ok (.ifCond .ne 6, 3) := by decide +kernel
theorem dM_order_8 : decode bM_order 8 = .ok (.bipush (-101), 2) := by decide +kernel
theorem dM_order_10 : decode bM_order 10 = .ok (.ireturn, 1) := by decide +kernel
theorem dM_order_11 : decode bM_order 11 = .ok (.aload_n 0, 1) := by decide +kernel
theorem dM_order_12 : decode bM_order 12 = .ok (.invokevirtual 95, 3) := by decide +kernel
theorem dM_order_15 : decode bM_order 15 = .ok (.ifCond .eq 6, 3) := by decide +kernel
theorem dM_order_18 : decode bM_order 18 = .ok (.bipush (-103), 2) := by decide +kernel
theorem dM_order_20 : decode bM_order 20 = .ok (.ireturn, 1) := by decide +kernel
theorem dM_order_21 : decode bM_order 21 = .ok (.iload_n 2, 1) := by decide +kernel
theorem dM_order_22 : decode bM_order 22 = .ok (.i2l, 1) := by decide +kernel
theorem dM_order_23 : decode bM_order 23 = .ok (.lconst 0, 1) := by decide +kernel
theorem dM_order_24 : decode bM_order 24 = .ok (.ldc2_w 172, 3) := by decide +kernel
theorem dM_order_27 : decode bM_order 27 = .ok (.invokestatic 72, 3) := by decide +kernel
theorem dM_order_30 : decode bM_order 30 = .ok (.ifCond .ne 6, 3) := by decide +kernel
theorem dM_order_33 : decode bM_order 33 = .ok (.bipush (-102), 2) := by decide +kernel
theorem dM_order_35 : decode bM_order 35 = .ok (.ireturn, 1) := by decide +kernel
theorem dM_order_36 : decode bM_order 36 = .ok (.aload_n 0, 1) := by decide +kernel
theorem dM_order_37 : decode bM_order 37 = .ok (.iconst 3, 1) := by decide +kernel
theorem dM_order_38 : decode bM_order 38 = .ok (.invokevirtual 174, 3) := by decide +kernel
theorem dM_order_41 : decode bM_order 41 = .ok (.aload_n 0, 1) := by decide +kernel
theorem dM_order_42 : decode bM_order 42 = .ok (.iload_n 1, 1) := by decide +kernel
theorem dM_order_43 : decode bM_order 43 = .ok (.invokevirtual 178, 3) := by decide +kernel
theorem dM_order_46 : decode bM_order 46 = .ok (.iload_n 2, 1) := by decide +kernel
theorem dM_order_47 : decode bM_order 47 = .ok (.aload_n 0, 1) := by decide +kernel
theorem dM_order_48 : decode bM_order 48 = .ok (.getfield 156, 3) := by decide +kernel
theorem dM_order_51 : decode bM_order 51 = .ok (.if_icmp .ge 12, 3) := by decide +kernel
theorem dM_order_54 : decode bM_order 54 = .ok (.aload_n 0, 1) := by decide +kernel
theorem dM_order_55 : decode bM_order 55 = .ok (.getfield 28, 3) := by decide +kernel
theorem dM_order_58 : decode bM_order 58 = .ok (.iload_n 2, 1) := by decide +kernel
theorem dM_order_59 : decode bM_order 59 = .ok (.iaload, 1) := by decide +kernel
theorem dM_order_60 : decode bM_order 60 = .ok (.goto 4, 3) := by decide +kernel
theorem dM_order_63 : decode bM_order 63 = .ok (.iconst (-1), 1) := by decide +kernel
theorem dM_order_64 : decode bM_order 64 = .ok (.ireturn, 1) := by decide +kernel
theorem dM_nearestBin_0 : decode bM_nearestBin 0 = .ok (.iconst 0, 1) := by decide +kernel
theorem dM_nearestBin_1 : decode bM_nearestBin 1 = .ok (.istore_n 2, 1) := by decide +kernel
theorem dM_nearestBin_2 : decode bM_nearestBin 2 = .ok (.iload_n 2, 1) := by decide +kernel
theorem dM_nearestBin_3 : decode bM_nearestBin 3 = .ok (.aload_n 0, 1) := by decide +kernel
theorem dM_nearestBin_4 : decode bM_nearestBin 4 = .ok (.getfield 139, 3) := by decide +kernel
theorem dM_nearestBin_7 : decode bM_nearestBin 7 = .ok (.if_icmp .ge 63, 3) := by decide +kernel
theorem dM_nearestBin_10 : decode bM_nearestBin 10 = .ok (.iload_n 1, 1) := by decide +kernel
theorem dM_nearestBin_11 : decode bM_nearestBin 11 = .ok (.iload_n 2, 1) := by decide +kernel
theorem dM_nearestBin_12 : decode bM_nearestBin 12 = .ok (.isub, 1) := by decide +kernel
theorem dM_nearestBin_13 : decode bM_nearestBin 13 = .ok (.ifCond .lt 22, 3) := by decide +kernel
theorem dM_nearestBin_16 : decode bM_nearestBin 16 = .ok (.aload_n 0, 1) := by decide +kernel
theorem dM_nearestBin_17 : decode bM_nearestBin 17 = .ok (.getfield 43, 3) := by decide +kernel
theorem dM_nearestBin_20 : decode bM_nearestBin 20 = .ok (.iload_n 1, 1) := by decide +kernel
theorem dM_nearestBin_21 : decode bM_nearestBin 21 = .ok (.iload_n 2, 1) := by decide +kernel
theorem dM_nearestBin_22 : decode bM_nearestBin 22 = .ok (.isub, 1) := by decide +kernel
theorem dM_nearestBin_23 : decode bM_nearestBin 23 = .ok (.iaload, 1) := by decide +kernel
theorem dM_nearestBin_24 : decode bM_nearestBin 24 = .ok (.aload_n 0, 1) := by decide +kernel
theorem dM_nearestBin_25 : decode bM_nearestBin 25 = .ok (.getfield 86, 3) := by decide +kernel
theorem dM_nearestBin_28 : decode bM_nearestBin 28 = .ok (.if_icmp .ge 7, 3) := by decide +kernel
theorem dM_nearestBin_31 : decode bM_nearestBin 31 = .ok (.iload_n 1, 1) := by decide +kernel
theorem dM_nearestBin_32 : decode bM_nearestBin 32 = .ok (.iload_n 2, 1) := by decide +kernel
theorem dM_nearestBin_33 : decode bM_nearestBin 33 = .ok (.isub, 1) := by decide +kernel
theorem dM_nearestBin_34 : decode bM_nearestBin 34 = .ok (.ireturn, 1) := by decide +kernel
theorem dM_nearestBin_35 : decode bM_nearestBin 35 = .ok (.iload_n 1, 1) := by decide +kernel
theorem dM_nearestBin_36 : decode bM_nearestBin 36 = .ok (.iload_n 2, 1) := by decide +kernel
theorem dM_nearestBin_37 : decode bM_nearestBin 37 = .ok (.iadd, 1) := by decide +kernel
theorem dM_nearestBin_38 : decode bM_nearestBin 38 = .ok (.aload_n 0, 1) := by decide +kernel
theorem dM_nearestBin_39 : decode bM_nearestBin 39 = .ok (.getfield 139, 3) := by decide +kernel
theorem dM_nearestBin_42 : decode bM_nearestBin 42 = .ok (.if_icmp .ge 22, 3) := by decide +kernel
theorem dM_nearestBin_45 : decode bM_nearestBin 45 = .ok (.aload_n 0, 1) := by decide +kernel
theorem dM_nearestBin_46 : decode bM_nearestBin 46 = .ok (.getfield 43, 3) := by decide +kernel
theorem dM_nearestBin_49 : decode bM_nearestBin 49 = .ok (.iload_n 1, 1) := by decide +kernel
theorem dM_nearestBin_50 : decode bM_nearestBin 50 = .ok (.iload_n 2, 1) := by decide +kernel
theorem dM_nearestBin_51 : decode bM_nearestBin 51 = .ok (.iadd, 1) := by decide +kernel
theorem dM_nearestBin_52 : decode bM_nearestBin 52 = .ok (.iaload, 1) := by decide +kernel
theorem dM_nearestBin_53 : decode bM_nearestBin 53 = .ok (.aload_n 0, 1) := by decide +kernel
theorem dM_nearestBin_54 : decode bM_nearestBin 54 = .ok (.getfield 86, 3) := by decide +kernel
theorem dM_nearestBin_57 : decode bM_nearestBin 57 = .ok (.if_icmp .ge 7, 3) := by decide +kernel
theorem dM_nearestBin_60 : decode bM_nearestBin 60 = .ok (.iload_n 1, 1) := by decide +kernel
theorem dM_nearestBin_61 : decode bM_nearestBin 61 = .ok (.iload_n 2, 1) := by decide +kernel
theorem dM_nearestBin_62 : decode bM_nearestBin 62 = .ok (.iadd, 1) := by decide +kernel
theorem dM_nearestBin_63 : decode bM_nearestBin 63 = .ok (.ireturn, 1) := by decide +kernel
theorem dM_nearestBin_64 : decode bM_nearestBin 64 = .ok (.iinc 2 1, 3) := by decide +kernel
theorem dM_nearestBin_67 : decode bM_nearestBin 67 = .ok (.goto (-65), 3) := by decide +kernel
theorem dM_nearestBin_70 : decode bM_nearestBin 70 = .ok (.iconst (-1), 1) := by decide +kernel
theorem dM_nearestBin_71 : decode bM_nearestBin 71 = .ok (.ireturn, 1) := by decide +kernel
theorem dM_begin_0 : decode bM_begin 0 = .ok (.iconst 0, 1) := by decide +kernel
theorem dM_begin_1 : decode bM_begin 1 = .ok (.istore_n 2, 1) := by decide +kernel
theorem dM_begin_2 : decode bM_begin 2 = .ok (.iconst 0, 1) := by decide +kernel
theorem dM_begin_3 : decode bM_begin 3 = .ok (.istore_n 3, 1) := by decide +kernel
theorem dM_begin_4 : decode bM_begin 4 = .ok (.iload_n 3, 1) := by decide +kernel
theorem dM_begin_5 : decode bM_begin 5 = .ok (.aload_n 0, 1) := by decide +kernel
theorem dM_begin_6 : decode bM_begin 6 = .ok (.getfield 25, 3) := by decide +kernel
theorem dM_begin_9 : decode bM_begin 9 = .ok (.iload_n 1, 1) := by decide +kernel
theorem dM_begin_10 : decode bM_begin 10 = .ok (.iaload, 1) := by decide +kernel
theorem dM_begin_11 : decode bM_begin 11 = .ok (.if_icmp .ge 97, 3) := by decide +kernel
theorem dM_begin_14 : decode bM_begin 14 = .ok (.aload_n 0, 1) := by decide +kernel
theorem dM_begin_15 : decode bM_begin 15 = .ok (.aload_n 0, 1) := by decide +kernel
theorem dM_begin_16 : decode bM_begin 16 = .ok (.getfield 22, 3) := by decide +kernel
theorem dM_begin_19 : decode bM_begin 19 = .ok (.iload_n 1, 1) := by decide +kernel
theorem dM_begin_20 : decode bM_begin 20 = .ok (.iaload, 1) := by decide +kernel
theorem dM_begin_21 : decode bM_begin 21 = .ok (.invokevirtual 181, 3) := by decide +kernel
theorem dM_begin_24 : decode bM_begin 24 = .ok (.istore 4, 2) := by decide +kernel
theorem dM_begin_26 : decode bM_begin 26 = .ok (.aload_n 0, 1) := by decide +kernel
theorem dM_begin_27 : decode bM_begin 27 = .ok (.getfield 46, 3) := by decide +kernel
theorem dM_begin_30 : decode bM_begin 30 = .ok (.iconst 3, 1) := by decide +kernel
theorem dM_begin_31 : decode bM_begin 31 = .ok (.iload_n 1, 1) := by decide +kernel
theorem dM_begin_32 : decode bM_begin 32 = .ok (.imul, 1) := by decide +kernel
theorem dM_begin_33 : decode bM_begin 33 = .ok (.iload_n 3, 1) := by decide +kernel
theorem dM_begin_34 : decode bM_begin 34 = .ok (.iadd, 1) := by decide +kernel
theorem dM_begin_35 : decode bM_begin 35 = .ok (.iload 4, 2) := by decide +kernel
theorem dM_begin_37 : decode bM_begin 37 = .ok (.iastore, 1) := by decide +kernel
theorem dM_begin_38 : decode bM_begin 38 = .ok (.iload 4, 2) := by decide +kernel
theorem dM_begin_40 : decode bM_begin 40 = .ok (.iconst (-1), 1) := by decide +kernel
theorem dM_begin_41 : decode bM_begin 41 = .ok (.if_icmp .ne 19, 3) := by decide +kernel
theorem dM_begin_44 : decode bM_begin 44 = .ok (.aload_n 0, 1) := by decide +kernel
theorem dM_begin_45 : decode bM_begin 45 = .ok (.dup, 1) := by decide +kernel
theorem dM_begin_46 : decode bM_begin 46 = .ok (.getfield 184, 3) := by decide +kernel
theorem dM_begin_49 : decode bM_begin 49 = .ok (.iconst 1, 1) := by decide +kernel
theorem dM_begin_50 : decode bM_begin 50 = .ok (.iadd, 1) := by decide +kernel
theorem dM_begin_51 : decode bM_begin 51 = .ok (.putfield 184, 3) := by decide +kernel
theorem dM_begin_54 : decode bM_begin 54 = .ok (.iinc 2 5, 3) := by decide +kernel
theorem dM_begin_57 : decode bM_begin 57 = .ok (.goto 45, 3) := by decide +kernel
theorem dM_begin_60 : decode bM_begin 60 = .ok (.aload_n 0, 1) := by decide +kernel
theorem dM_begin_61 : decode bM_begin 61 = .ok (.getfield 43, 3) := by decide +kernel
theorem dM_begin_64 : decode bM_begin 64 = .ok (.iload 4, 2) := by decide +kernel
theorem dM_begin_66 : decode bM_begin 66 = .ok (.dup2, 1) := by decide +kernel
theorem dM_begin_67 : decode bM_begin 67 = .ok (.iaload, 1) := by decide +kernel
theorem dM_begin_68 : decode bM_begin 68 = .ok (.iconst 1, 1) := by decide +kernel
theorem dM_begin_69 : decode bM_begin 69 = .ok (.iadd, 1) := by decide +kernel
theorem dM_begin_70 : decode bM_begin 70 = .ok (.iastore, 1) := by decide +kernel
theorem dM_begin_71 : decode bM_begin 71 = .ok (.iload 4, 2) := by decide +kernel
theorem dM_begin_73 : decode bM_begin 73 = .ok (.aload_n 0, 1) := by decide +kernel
theorem dM_begin_74 : decode bM_begin 74 = .ok (.getfield 22, 3) := by decide +kernel
theorem dM_begin_77 : decode bM_begin 77 = .ok (.iload_n 1, 1) := by decide +kernel
theorem dM_begin_78 : decode bM_begin 78 = .ok (.iaload, 1) := by decide +kernel
theorem dM_begin_79 : decode bM_begin 79 = .ok (.isub, 1) := by decide +kernel
theorem dM_begin_80 : decode bM_begin 80 = .ok (.istore 5, 2) := by decide +kernel
theorem dM_begin_82 : decode bM_begin 82 = .ok (.iload_n 2, 1) := by decide +kernel
theorem dM_begin_83 : decode bM_begin 83 = .ok (.iconst 4, 1) := by decide +kernel
theorem dM_begin_84 : decode bM_begin 84 = .ok (.iconst 2, 1) := by decide +kernel
theorem dM_begin_85 : decode bM_begin 85 = .ok (.iload 5, 2) := by decide +kernel
theorem dM_begin_87 : decode bM_begin 87 = .ok (.ifCond .ge 9, 3) := by decide +kernel
theorem dM_begin_90 : decode bM_begin 90 = .ok (.iload 5, 2) := by decide +kernel
theorem dM_begin_92 : decode bM_begin 92 = .ok (.ineg, 1) := by decide +kernel
theorem dM_begin_93 : decode bM_begin 93 = .ok (.goto 5, 3) := by decide +kernel
theorem dM_begin_96 : decode bM_begin 96 = .ok (.iload 5, 2) := by decide +kernel
theorem dM_begin_98 : decode bM_begin 98 = .ok (.imul, 1) := by decide +kernel
theorem dM_begin_99 : decode bM_begin 99 = .ok (.iadd, 1) := by decide +kernel
theorem dM_begin_100 : decode bM_begin 100 = .ok (.iadd, 1) := by decide +kernel
theorem dM_begin_101 : decode bM_begin 101 = .ok (.istore_n 2, 1) := by decide +kernel
theorem dM_begin_102 : decode bM_begin 102 = .ok (.iinc 3 1, 3) := by decide +kernel
theorem dM_begin_105 : decode bM_begin 105 = .ok (.goto (-101), 3) := by decide +kernel
theorem dM_begin_108 : decode bM_begin 108 = .ok (.iconst 0, 1) := by decide +kernel
theorem dM_begin_109 : decode bM_begin 109 = .ok (.istore_n 3, 1) := by decide +kernel
theorem dM_begin_110 : decode bM_begin 110 = .ok (.iload_n 3, 1) := by decide +kernel
theorem dM_begin_111 : decode bM_begin 111 = .ok (.aload_n 0, 1) := by decide +kernel
theorem dM_begin_112 : decode bM_begin 112 = .ok (.getfield 156, 3) := by decide +kernel
theorem dM_begin_115 : decode bM_begin 115 = .ok (.if_icmp .ge 91, 3) := by decide +kernel
theorem dM_begin_118 : decode bM_begin 118 = .ok (.aload_n 0, 1) := by decide +kernel
theorem dM_begin_119 : decode bM_begin 119 = .ok (.getfield 28, 3) := by decide +kernel
theorem dM_begin_122 : decode bM_begin 122 = .ok (.iload_n 3, 1) := by decide +kernel
theorem dM_begin_123 : decode bM_begin 123 = .ok (.iaload, 1) := by decide +kernel
theorem dM_begin_124 : decode bM_begin 124 = .ok (.istore 4, 2) := by decide +kernel
theorem dM_begin_126 : decode bM_begin 126 = .ok (.aload_n 0, 1) := by decide +kernel
theorem dM_begin_127 : decode bM_begin 127 = .ok (.getfield 37, 3) := by decide +kernel
theorem dM_begin_130 : decode bM_begin 130 = .ok (.iload 4, 2) := by decide +kernel
theorem dM_begin_132 : decode bM_begin 132 = .ok (.iaload, 1) := by decide +kernel
theorem dM_begin_133 : decode bM_begin 133 = .ok (.ifCond .le 51, 3) := by decide +kernel
theorem dM_begin_136 : decode bM_begin 136 = .ok (.aload_n 0, 1) := by decide +kernel
theorem dM_begin_137 : decode bM_begin 137 = .ok (.getfield 22, 3) := by decide +kernel
theorem dM_begin_140 : decode bM_begin 140 = .ok (.iload 4, 2) := by decide +kernel
theorem dM_begin_142 : decode bM_begin 142 = .ok (.iaload, 1) := by decide +kernel
theorem dM_begin_143 : decode bM_begin 143 = .ok (.aload_n 0, 1) := by decide +kernel
theorem dM_begin_144 : decode bM_begin 144 = .ok (.getfield 22, 3) := by decide +kernel
theorem dM_begin_147 : decode bM_begin 147 = .ok (.iload_n 1, 1) := by decide +kernel
theorem dM_begin_148 : decode bM_begin 148 = .ok (.iaload, 1) := by decide +kernel
theorem dM_begin_149 : decode bM_begin 149 = .ok (.if_icmp .ne 35, 3) := by decide +kernel
theorem dM_begin_152 : decode bM_begin 152 = .ok (.aload_n 0, 1) := by decide +kernel
theorem dM_begin_153 : decode bM_begin 153 = .ok (.iload 4, 2) := by decide +kernel
theorem dM_begin_155 : decode bM_begin 155 = .ok (.invokevirtual 146, 3) := by decide +kernel
theorem dM_begin_158 : decode bM_begin 158 = .ok (.aload_n 0, 1) := by decide +kernel
theorem dM_begin_159 : decode bM_begin 159 = .ok (.iload_n 1, 1) := by decide +kernel
theorem dM_begin_160 : decode bM_begin 160 = .ok (.invokevirtual 146, 3) := by decide +kernel
theorem dM_begin_163 : decode bM_begin 163 = .ok (.if_icmp .ne 21, 3) := by decide +kernel
theorem dM_begin_166 : decode bM_begin 166 = .ok (.aload_n 0, 1) := by decide +kernel
theorem dM_begin_167 : decode bM_begin 167 = .ok (.iload 4, 2) := by decide +kernel
theorem dM_begin_169 : decode bM_begin 169 = .ok (.invokevirtual 142, 3) := by decide +kernel
theorem dM_begin_172 : decode bM_begin 172 = .ok (.aload_n 0, 1) := by decide +kernel
theorem dM_begin_173 : decode bM_begin 173 = .ok (.iload_n 1, 1) := by decide +kernel
theorem dM_begin_174 : decode bM_begin 174 = .ok (.invokevirtual 142, 3) := by decide +kernel
theorem dM_begin_177 : decode bM_begin 177 = .ok (.if_icmp .ge 7, 3) := by decide +kernel
theorem dM_begin_180 : decode bM_begin 180 = .ok (.iconst 1, 1) := by decide +kernel
theorem dM_begin_181 : decode bM_begin 181 = .ok (.goto 4, 3) := by decide +kernel
theorem dM_begin_184 : decode bM_begin 184 = .ok (.iconst 0, 1) := by decide +kernel
theorem dM_begin_185 : decode bM_begin 185 = .ok (.istore 5, 2) := by decide +kernel
theorem dM_begin_187 : decode bM_begin 187 = .ok (.iload_n 2, 1) := by decide +kernel
theorem dM_begin_188 : decode bM_begin 188 = .ok (.iload 5, 2) := by decide +kernel
theorem dM_begin_190 : decode bM_begin 190 = .ok (.ifCond .eq 7, 3) := by decide +kernel
theorem dM_begin_193 : decode bM_begin 193 = .ok (.iconst 3, 1) := by decide +kernel
theorem dM_begin_194 : decode bM_begin 194 = .ok (.goto 4, 3) := by decide +kernel
theorem dM_begin_197 : decode bM_begin 197 = .ok (.iconst 0, 1) := by decide +kernel
theorem dM_begin_198 : decode bM_begin 198 = .ok (.iadd, 1) := by decide +kernel
theorem dM_begin_199 : decode bM_begin 199 = .ok (.istore_n 2, 1) := by decide +kernel
theorem dM_begin_200 : decode bM_begin 200 = .ok (.iinc 3 1, 3) := by decide +kernel
theorem dM_begin_203 : decode bM_begin 203 = .ok (.goto (-93), 3) := by decide +kernel
theorem dM_begin_206 : decode bM_begin 206 = .ok (.iload_n 2, 1) := by decide +kernel
theorem dM_begin_207 : decode bM_begin 207 = .ok (.ireturn, 1) := by decide +kernel
theorem dM_sit_0 : decode bM_sit 0 = .ok (.aload_n 0, 1) := by decide +kernel
theorem dM_sit_1 : decode bM_sit 1 = .ok (.getfield 31, 3) := by decide +kernel
theorem dM_sit_4 : decode bM_sit 4 = .ok (.iload_n 2, 1) := by decide +kernel
theorem dM_sit_5 : decode bM_sit 5 = .ok (.iconst (-1), 1) := by decide +kernel
theorem dM_sit_6 : decode bM_sit 6 = .ok (.iastore, 1) := by decide +kernel
theorem dM_sit_7 : decode bM_sit 7 = .ok (.aload_n 0, 1) := by decide +kernel
theorem dM_sit_8 : decode bM_sit 8 = .ok (.getfield 37, 3) := by decide +kernel
theorem dM_sit_11 : decode bM_sit 11 = .ok (.iload_n 1, 1) := by decide +kernel
theorem dM_sit_12 : decode bM_sit 12 = .ok (.iload_n 3, 1) := by decide +kernel
theorem dM_sit_13 : decode bM_sit 13 = .ok (.iastore, 1) := by decide +kernel
theorem dM_sit_14 : decode bM_sit 14 = .ok (.aload_n 0, 1) := by decide +kernel
theorem dM_sit_15 : decode bM_sit 15 = .ok (.dup, 1) := by decide +kernel
theorem dM_sit_16 : decode bM_sit 16 = .ok (.getfield 187, 3) := by decide +kernel
theorem dM_sit_19 : decode bM_sit 19 = .ok (.iconst 1, 1) := by decide +kernel
theorem dM_sit_20 : decode bM_sit 20 = .ok (.iadd, 1) := by decide +kernel
theorem dM_sit_21 : decode bM_sit 21 = .ok (.putfield 187, 3) := by decide +kernel
theorem dM_sit_24 : decode bM_sit 24 = .ok (.return_, 1) := by decide +kernel
theorem dM_goCell_0 : decode bM_goCell 0 = .ok (.aload_n 0, 1) := by decide +kernel
theorem dM_goCell_1 : decode bM_goCell 1 = .ok (.getfield 31, 3) := by decide +kernel
theorem dM_goCell_4 : decode bM_goCell 4 = .ok (.iload_n 1, 1) := by decide +kernel
theorem dM_goCell_5 : decode bM_goCell 5 = .ok (.iaload, 1) := by decide +kernel
theorem dM_goCell_6 : decode bM_goCell 6 = .ok (.istore_n 3, 1) := by decide +kernel
theorem dM_goCell_7 : decode bM_goCell 7 = .ok (.aload_n 0, 1) := by decide +kernel
theorem dM_goCell_8 : decode bM_goCell 8 = .ok (.getfield 34, 3) := by decide +kernel
theorem dM_goCell_11 : decode bM_goCell 11 = .ok (.iload_n 3, 1) := by decide +kernel
theorem dM_goCell_12 : decode bM_goCell 12 = .ok (.iaload, 1) := by decide +kernel
theorem dM_goCell_13 : decode bM_goCell 13 = .ok (.ifCond .le 32, 3) := by decide +kernel
theorem dM_goCell_16 : decode bM_goCell 16 = .ok (.aload_n 0, 1) := by decide +kernel
theorem dM_goCell_17 : decode bM_goCell 17 = .ok (.getfield 34, 3) := by decide +kernel
theorem dM_goCell_20 : decode bM_goCell 20 = .ok (.iload_n 3, 1) := by decide +kernel
theorem dM_goCell_21 : decode bM_goCell 21 = .ok (.dup2, 1) := by decide +kernel
theorem dM_goCell_22 : decode bM_goCell 22 = .ok (.iaload, 1) := by decide +kernel
theorem dM_goCell_23 : decode bM_goCell 23 = .ok (.iconst 1, 1) := by decide +kernel
theorem dM_goCell_24 : decode bM_goCell 24 = .ok (.isub, 1) := by decide +kernel
theorem dM_goCell_25 : decode bM_goCell 25 = .ok (.iastore, 1) := by decide +kernel
theorem dM_goCell_26 : decode bM_goCell 26 = .ok (.aload_n 0, 1) := by decide +kernel
theorem dM_goCell_27 : decode bM_goCell 27 = .ok (.getfield 34, 3) := by decide +kernel
theorem dM_goCell_30 : decode bM_goCell 30 = .ok (.iload_n 3, 1) := by decide +kernel
theorem dM_goCell_31 : decode bM_goCell 31 = .ok (.iaload, 1) := by decide +kernel
theorem dM_goCell_32 : decode bM_goCell 32 = .ok (.ifCond .ne 94, 3) := by decide +kernel
theorem dM_goCell_35 : decode bM_goCell 35 = .ok (.aload_n 0, 1) := by decide +kernel
theorem dM_goCell_36 : decode bM_goCell 36 = .ok (.iload_n 3, 1) := by decide +kernel
theorem dM_goCell_37 : decode bM_goCell 37 = .ok (.iload_n 1, 1) := by decide +kernel
theorem dM_goCell_38 : decode bM_goCell 38 = .ok (.iload_n 2, 1) := by decide +kernel
theorem dM_goCell_39 : decode bM_goCell 39 = .ok (.invokevirtual 190, 3) := by decide +kernel
theorem dM_goCell_42 : decode bM_goCell 42 = .ok (.goto 84, 3) := by decide +kernel
theorem dM_goCell_45 : decode bM_goCell 45 = .ok (.iload_n 1, 1) := by decide +kernel
theorem dM_goCell_46 : decode bM_goCell 46 = .ok (.aload_n 0, 1) := by decide +kernel
theorem dM_goCell_47 : decode bM_goCell 47 = .ok (.getfield 22, 3) := by decide +kernel
theorem dM_goCell_50 : decode bM_goCell 50 = .ok (.iload_n 3, 1) := by decide +kernel
theorem dM_goCell_51 : decode bM_goCell 51 = .ok (.iaload, 1) := by decide +kernel
theorem dM_goCell_52 : decode bM_goCell 52 = .ok (.if_icmp .ne 33, 3) := by decide +kernel
theorem dM_goCell_55 : decode bM_goCell 55 = .ok (.aload_n 0, 1) := by decide +kernel
theorem dM_goCell_56 : decode bM_goCell 56 = .ok (.getfield 34, 3) := by decide +kernel
theorem dM_goCell_59 : decode bM_goCell 59 = .ok (.iload_n 3, 1) := by decide +kernel
theorem dM_goCell_60 : decode bM_goCell 60 = .ok (.aload_n 0, 1) := by decide +kernel
theorem dM_goCell_61 : decode bM_goCell 61 = .ok (.iload_n 3, 1) := by decide +kernel
theorem dM_goCell_62 : decode bM_goCell 62 = .ok (.invokevirtual 194, 3) := by decide +kernel
theorem dM_goCell_65 : decode bM_goCell 65 = .ok (.iastore, 1) := by decide +kernel
theorem dM_goCell_66 : decode bM_goCell 66 = .ok (.aload_n 0, 1) := by decide +kernel
theorem dM_goCell_67 : decode bM_goCell 67 = .ok (.getfield 34, 3) := by decide +kernel
theorem dM_goCell_70 : decode bM_goCell 70 = .ok (.iload_n 3, 1) := by decide +kernel
theorem dM_goCell_71 : decode bM_goCell 71 = .ok (.iaload, 1) := by decide +kernel
theorem dM_goCell_72 : decode bM_goCell 72 = .ok (.ifCond .ne 54, 3) := by decide +kernel
theorem dM_goCell_75 : decode bM_goCell 75 = .ok (.aload_n 0, 1) := by decide +kernel
theorem dM_goCell_76 : decode bM_goCell 76 = .ok (.iload_n 3, 1) := by decide +kernel
theorem dM_goCell_77 : decode bM_goCell 77 = .ok (.iload_n 1, 1) := by decide +kernel
theorem dM_goCell_78 : decode bM_goCell 78 = .ok (.iload_n 2, 1) := by decide +kernel
theorem dM_goCell_79 : decode bM_goCell 79 = .ok (.invokevirtual 190, 3) := by decide +kernel
theorem dM_goCell_82 : decode bM_goCell 82 = .ok (.goto 44, 3) := by decide +kernel
theorem dM_goCell_85 : decode bM_goCell 85 = .ok (.aload_n 0, 1) := by decide +kernel
theorem dM_goCell_86 : decode bM_goCell 86 = .ok (.getfield 31, 3) := by decide +kernel
theorem dM_goCell_89 : decode bM_goCell 89 = .ok (.iload_n 1, 1) := by decide +kernel
theorem dM_goCell_90 : decode bM_goCell 90 = .ok (.iconst 1, 1) := by decide +kernel
theorem dM_goCell_91 : decode bM_goCell 91 = .ok (.iadd, 1) := by decide +kernel
theorem dM_goCell_92 : decode bM_goCell 92 = .ok (.iaload, 1) := by decide +kernel
theorem dM_goCell_93 : decode bM_goCell 93 = .ok (.iconst (-1), 1) := by decide +kernel
theorem dM_goCell_94 : decode bM_goCell 94 = .ok (.if_icmp .ne 22, 3) := by decide +kernel
theorem dM_goCell_97 : decode bM_goCell 97 = .ok (.aload_n 0, 1) := by decide +kernel
theorem dM_goCell_98 : decode bM_goCell 98 = .ok (.getfield 31, 3) := by decide +kernel
theorem dM_goCell_101 : decode bM_goCell 101 = .ok (.iload_n 1, 1) := by decide +kernel
theorem dM_goCell_102 : decode bM_goCell 102 = .ok (.iconst 1, 1) := by decide +kernel
theorem dM_goCell_103 : decode bM_goCell 103 = .ok (.iadd, 1) := by decide +kernel
theorem dM_goCell_104 : decode bM_goCell 104 = .ok (.iload_n 3, 1) := by decide +kernel
theorem dM_goCell_105 : decode bM_goCell 105 = .ok (.iastore, 1) := by decide +kernel
theorem dM_goCell_106 : decode bM_goCell 106 = .ok (.aload_n 0, 1) := by decide +kernel
theorem dM_goCell_107 : decode bM_goCell 107 = .ok (.getfield 31, 3) := by decide +kernel
theorem dM_goCell_110 : decode bM_goCell 110 = .ok (.iload_n 1, 1) := by decide +kernel
theorem dM_goCell_111 : decode bM_goCell 111 = .ok (.iconst (-1), 1) := by decide +kernel
theorem dM_goCell_112 : decode bM_goCell 112 = .ok (.iastore, 1) := by decide +kernel
theorem dM_goCell_113 : decode bM_goCell 113 = .ok (.goto 13, 3) := by decide +kernel
theorem dM_goCell_116 : decode bM_goCell 116 = .ok (.aload_n 0, 1) := by decide +kernel
theorem dM_goCell_117 : decode bM_goCell 117 = .ok (.getfield 40, 3) := by decide +kernel
theorem dM_goCell_120 : decode bM_goCell 120 = .ok (.iload_n 3, 1) := by decide +kernel
theorem dM_goCell_121 : decode bM_goCell 121 = .ok (.dup2, 1) := by decide +kernel
theorem dM_goCell_122 : decode bM_goCell 122 = .ok (.iaload, 1) := by decide +kernel
theorem dM_goCell_123 : decode bM_goCell 123 = .ok (.iconst 1, 1) := by decide +kernel
theorem dM_goCell_124 : decode bM_goCell 124 = .ok (.iadd, 1) := by decide +kernel
theorem dM_goCell_125 : decode bM_goCell 125 = .ok (.iastore, 1) := by decide +kernel
theorem dM_goCell_126 : decode bM_goCell 126 = .ok (.return_, 1) := by decide +kernel
theorem dM_beginBoard_0 : decode bM_beginBoard 0 = .ok (.iconst 0, 1) := by decide +kernel
theorem dM_beginBoard_1 : decode bM_beginBoard 1 = .ok (.istore_n 1, 1) := by decide +kernel
theorem dM_beginBoard_2 : decode bM_beginBoard 2 = .ok (.iload_n 1, 1) := by decide +kernel
theorem dM_beginBoard_3 : decode bM_beginBoard 3 = .ok (.bipush 12, 2) := by decide +kernel
theorem dM_beginBoard_5 : decode bM_beginBoard 5 = .ok (.if_icmp .ge 44, 3) := by decide +kernel
theorem dM_beginBoard_8 : decode bM_beginBoard 8 = .ok (.aload_n 0, 1) := by decide +kernel
theorem dM_beginBoard_9 : decode bM_beginBoard 9 = .ok (.getfield 31, 3) := by decide +kernel
theorem dM_beginBoard_12 : decode bM_beginBoard 12 = .ok (.iload_n 1, 1) := by decide +kernel
theorem dM_beginBoard_13 : decode bM_beginBoard 13 = .ok (.iconst (-1), 1) := by decide +kernel
theorem dM_beginBoard_14 : decode bM_beginBoard 14 = .ok (.iastore, 1) := by decide +kernel
theorem dM_beginBoard_15 : decode bM_beginBoard 15 = .ok (.aload_n 0, 1) := by decide +kernel
theorem dM_beginBoard_16 : decode bM_beginBoard 16 = .ok (.getfield 34, 3) := by decide +kernel
theorem dM_beginBoard_19 : decode bM_beginBoard 19 = .ok (.iload_n 1, 1) := by decide +kernel
theorem dM_beginBoard_20 : decode bM_beginBoard 20 = .ok (.iconst 0, 1) := by decide +kernel
theorem dM_beginBoard_21 : decode bM_beginBoard 21 = .ok (.iastore, 1) := by decide +kernel
theorem dM_beginBoard_22 : decode bM_beginBoard 22 = .ok (.aload_n 0, 1) := by decide +kernel
theorem dM_beginBoard_23 : decode bM_beginBoard 23 = .ok (.getfield 37, 3) := by decide +kernel
theorem dM_beginBoard_26 : decode bM_beginBoard 26 = .ok (.iload_n 1, 1) := by decide +kernel
theorem dM_beginBoard_27 : decode bM_beginBoard 27 = .ok (.iconst 0, 1) := by decide +kernel
theorem dM_beginBoard_28 : decode bM_beginBoard 28 = .ok (.iastore, 1) := by decide +kernel
theorem dM_beginBoard_29 : decode bM_beginBoard 29 = .ok (.aload_n 0, 1) := by decide +kernel
theorem dM_beginBoard_30 : decode bM_beginBoard 30 = .ok (.getfield 40, 3) := by decide +kernel
theorem dM_beginBoard_33 : decode bM_beginBoard 33 = .ok (.iload_n 1, 1) := by decide +kernel
theorem dM_beginBoard_34 : decode bM_beginBoard 34 = .ok (.iconst 0, 1) := by decide +kernel
theorem dM_beginBoard_35 : decode bM_beginBoard 35 = .ok (.iastore, 1) := by decide +kernel
theorem dM_beginBoard_36 : decode bM_beginBoard 36 = .ok (.aload_n 0, 1) := by decide +kernel
theorem dM_beginBoard_37 : decode bM_beginBoard 37 = .ok (.getfield 43, 3) := by decide +kernel
theorem dM_beginBoard_40 : decode bM_beginBoard 40 = .ok (.iload_n 1, 1) := by decide +kernel
theorem dM_beginBoard_41 : decode bM_beginBoard 41 = .ok (.iconst 0, 1) := by decide +kernel
theorem dM_beginBoard_42 : decode bM_beginBoard 42 = .ok (.iastore, 1) := by decide +kernel
theorem dM_beginBoard_43 : decode bM_beginBoard 43 = .ok (.iinc 1 1, 3) := by decide +kernel
theorem dM_beginBoard_46 : decode bM_beginBoard 46 = .ok (.goto (-44), 3) := by decide +kernel
theorem dM_beginBoard_49 : decode bM_beginBoard 49 = .ok (.iconst 0, 1) := by decide +kernel
theorem dM_beginBoard_50 : decode bM_beginBoard 50 = .ok (.istore_n 1, 1) := by decide +kernel
theorem dM_beginBoard_51 : decode bM_beginBoard 51 = .ok (.iload_n 1, 1) := by decide +kernel
theorem dM_beginBoard_52 : decode bM_beginBoard 52 = .ok (.bipush 36, 2) := by decide +kernel
theorem dM_beginBoard_54 : decode bM_beginBoard 54 = .ok (.if_icmp .ge 16, 3) := by decide +kernel
theorem dM_beginBoard_57 : decode bM_beginBoard 57 = .ok (.aload_n 0, 1) := by decide +kernel
theorem dM_beginBoard_58 : decode bM_beginBoard 58 = .ok (.getfield 46, 3) := by decide +kernel
theorem dM_beginBoard_61 : decode bM_beginBoard 61 = .ok (.iload_n 1, 1) := by decide +kernel
theorem dM_beginBoard_62 : decode bM_beginBoard 62 = .ok (.iconst (-1), 1) := by decide +kernel
theorem dM_beginBoard_63 : decode bM_beginBoard 63 = .ok (.iastore, 1) := by decide +kernel
theorem dM_beginBoard_64 : decode bM_beginBoard 64 = .ok (.iinc 1 1, 3) := by decide +kernel
theorem dM_beginBoard_67 : decode bM_beginBoard 67 = .ok (.goto (-16), 3) := by decide +kernel
theorem dM_beginBoard_70 : decode bM_beginBoard 70 = .ok (.aload_n 0, 1) := by decide +kernel
theorem dM_beginBoard_71 : decode bM_beginBoard 71 = .ok (.iconst 0, 1) := by decide +kernel
theorem dM_beginBoard_72 : decode bM_beginBoard 72 = .ok (.putfield 184, 3) := by decide +kernel
theorem dM_beginBoard_75 : decode bM_beginBoard 75 = .ok (.aload_n 0, 1) := by decide +kernel
theorem dM_beginBoard_76 : decode bM_beginBoard 76 = .ok (.iconst 0, 1) := by decide +kernel
theorem dM_beginBoard_77 : decode bM_beginBoard 77 = .ok (.putfield 197, 3) := by decide +kernel
theorem dM_beginBoard_80 : decode bM_beginBoard 80 = .ok (.aload_n 0, 1) := by decide +kernel
theorem dM_beginBoard_81 : decode bM_beginBoard 81 = .ok (.iconst 0, 1) := by decide +kernel
theorem dM_beginBoard_82 : decode bM_beginBoard 82 = .ok (.putfield 187, 3) := by decide +kernel
theorem dM_beginBoard_85 : decode bM_beginBoard 85 = .ok (.return_, 1) := by decide +kernel
theorem dM_goSecond_0 : decode bM_goSecond 0 = .ok (.aload_n 0, 1) := by decide +kernel
theorem dM_goSecond_1 : decode bM_goSecond 1 = .ok (.getfield 139, 3) := by decide +kernel
theorem dM_goSecond_4 : decode bM_goSecond 4 = .ok (.iconst 1, 1) := by decide +kernel
theorem dM_goSecond_5 : decode bM_goSecond 5 = .ok (.isub, 1) := by decide +kernel
theorem dM_goSecond_6 : decode bM_goSecond 6 = .ok (.istore_n 2, 1) := by decide +kernel
theorem dM_goSecond_7 : decode bM_goSecond 7 = .ok (.iload_n 2, 1) := by decide +kernel
theorem dM_goSecond_8 : decode bM_goSecond 8 = .ok (.ifCond .lt 25, 3) := by decide +kernel
theorem dM_goSecond_11 : decode bM_goSecond 11 = .ok (.aload_n 0, 1) := by decide +kernel
theorem dM_goSecond_12 : decode bM_goSecond 12 = .ok (.getfield 31, 3) := by decide +kernel
theorem dM_goSecond_15 : decode bM_goSecond 15 = .ok (.iload_n 2, 1) := by decide +kernel
theorem dM_goSecond_16 : decode bM_goSecond 16 = .ok (.iaload, 1) := by decide +kernel
theorem dM_goSecond_17 : decode bM_goSecond 17 = .ok (.iconst (-1), 1) := by decide +kernel
theorem dM_goSecond_18 : decode bM_goSecond 18 = .ok (.if_icmp .eq 9, 3) := by decide +kernel
theorem dM_goSecond_21 : decode bM_goSecond 21 = .ok (.aload_n 0, 1) := by decide +kernel
theorem dM_goSecond_22 : decode bM_goSecond 22 = .ok (.iload_n 2, 1) := by decide +kernel
theorem dM_goSecond_23 : decode bM_goSecond 23 = .ok (.iload_n 1, 1) := by decide +kernel
theorem dM_goSecond_24 : decode bM_goSecond 24 = .ok (.invokevirtual 200, 3) := by decide +kernel
theorem dM_goSecond_27 : decode bM_goSecond 27 = .ok (.iinc 2 (-1), 3) := by decide +kernel
theorem dM_goSecond_30 : decode bM_goSecond 30 = .ok (.goto (-23), 3) := by decide +kernel
theorem dM_goSecond_33 : decode bM_goSecond 33 = .ok (.aload_n 0, 1) := by decide +kernel
theorem dM_goSecond_34 : decode bM_goSecond 34 = .ok (.getfield 197, 3) := by decide +kernel
theorem dM_goSecond_37 : decode bM_goSecond 37 = .ok (.aload_n 0, 1) := by decide +kernel
theorem dM_goSecond_38 : decode bM_goSecond 38 = .ok (.getfield 156, 3) := by decide +kernel
theorem dM_goSecond_41 : decode bM_goSecond 41 = .ok (.if_icmp .ge 38, 3) := by decide +kernel
theorem dM_goSecond_44 : decode bM_goSecond 44 = .ok (.aload_n 0, 1) := by decide +kernel
theorem dM_goSecond_45 : decode bM_goSecond 45 = .ok (.getfield 31, 3) := by decide +kernel
theorem dM_goSecond_48 : decode bM_goSecond 48 = .ok (.iconst 0, 1) := by decide +kernel
theorem dM_goSecond_49 : decode bM_goSecond 49 = .ok (.iaload, 1) := by decide +kernel
theorem dM_goSecond_50 : decode bM_goSecond 50 = .ok (.iconst (-1), 1) := by decide +kernel
theorem dM_goSecond_51 : decode bM_goSecond 51 = .ok (.if_icmp .ne 28, 3) := by decide +kernel
theorem dM_goSecond_54 : decode bM_goSecond 54 = .ok (.aload_n 0, 1) := by decide +kernel
theorem dM_goSecond_55 : decode bM_goSecond 55 = .ok (.getfield 31, 3) := by decide +kernel
theorem dM_goSecond_58 : decode bM_goSecond 58 = .ok (.iconst 0, 1) := by decide +kernel
theorem dM_goSecond_59 : decode bM_goSecond 59 = .ok (.aload_n 0, 1) := by decide +kernel
theorem dM_goSecond_60 : decode bM_goSecond 60 = .ok (.getfield 28, 3) := by decide +kernel
theorem dM_goSecond_63 : decode bM_goSecond 63 = .ok (.aload_n 0, 1) := by decide +kernel
theorem dM_goSecond_64 : decode bM_goSecond 64 = .ok (.getfield 197, 3) := by decide +kernel
theorem dM_goSecond_67 : decode bM_goSecond 67 = .ok (.iaload, 1) := by decide +kernel
theorem dM_goSecond_68 : decode bM_goSecond 68 = .ok (.iastore, 1) := by decide +kernel
theorem dM_goSecond_69 : decode bM_goSecond 69 = .ok (.aload_n 0, 1) := by decide +kernel
theorem dM_goSecond_70 : decode bM_goSecond 70 = .ok (.dup, 1) := by decide +kernel
theorem dM_goSecond_71 : decode bM_goSecond 71 = .ok (.getfield 197, 3) := by decide +kernel
theorem dM_goSecond_74 : decode bM_goSecond 74 = .ok (.iconst 1, 1) := by decide +kernel
theorem dM_goSecond_75 : decode bM_goSecond 75 = .ok (.iadd, 1) := by decide +kernel
theorem dM_goSecond_76 : decode bM_goSecond 76 = .ok (.putfield 197, 3) := by decide +kernel
theorem dM_goSecond_79 : decode bM_goSecond 79 = .ok (.return_, 1) := by decide +kernel
theorem dM_boardAll_0 : decode bM_boardAll 0 = .ok (.aload_n 0, 1) := by decide +kernel
theorem dM_boardAll_1 : decode bM_boardAll 1 = .ok (.invokevirtual 203, 3) := by decide +kernel
theorem dM_boardAll_4 : decode bM_boardAll 4 = .ok (.iconst 0, 1) := by decide +kernel
theorem dM_boardAll_5 : decode bM_boardAll 5 = .ok (.istore_n 1, 1) := by decide +kernel
theorem dM_boardAll_6 : decode bM_boardAll 6 = .ok (.aload_n 0, 1) := by decide +kernel
theorem dM_boardAll_7 : decode bM_boardAll 7 = .ok (.getfield 187, 3) := by decide +kernel
theorem dM_boardAll_10 : decode bM_boardAll 10 = .ok (.aload_n 0, 1) := by decide +kernel
theorem dM_boardAll_11 : decode bM_boardAll 11 = .ok (.getfield 156, 3) := by decide +kernel
theorem dM_boardAll_14 : decode bM_boardAll 14 = .ok (.if_icmp .ge 14, 3) := by decide +kernel
theorem dM_boardAll_17 : decode bM_boardAll 17 = .ok (.iinc 1 1, 3) := by decide +kernel
theorem dM_boardAll_20 : decode bM_boardAll 20 = .ok (.aload_n 0, 1) := by decide +kernel
theorem dM_boardAll_21 : decode bM_boardAll 21 = .ok (.iload_n 1, 1) := by decide +kernel
theorem dM_boardAll_22 : decode bM_boardAll 22 = .ok (.invokevirtual 206, 3) := by decide +kernel
theorem dM_boardAll_25 : decode bM_boardAll 25 = .ok (.goto (-19), 3) := by decide +kernel
theorem dM_boardAll_28 : decode bM_boardAll 28 = .ok (.iload_n 1, 1) := by decide +kernel
theorem dM_boardAll_29 : decode bM_boardAll 29 = .ok (.ireturn, 1) := by decide +kernel
theorem dM_boardBy_0 : decode bM_boardBy 0 = .ok (.aload_n 0, 1) := by decide +kernel
theorem dM_boardBy_1 : decode bM_boardBy 1 = .ok (.iconst 3, 1) := by decide +kernel
theorem dM_boardBy_2 : decode bM_boardBy 2 = .ok (.invokevirtual 174, 3) := by decide +kernel
theorem dM_boardBy_5 : decode bM_boardBy 5 = .ok (.aload_n 0, 1) := by decide +kernel
theorem dM_boardBy_6 : decode bM_boardBy 6 = .ok (.iload_n 1, 1) := by decide +kernel
theorem dM_boardBy_7 : decode bM_boardBy 7 = .ok (.invokevirtual 178, 3) := by decide +kernel
theorem dM_boardBy_10 : decode bM_boardBy 10 = .ok (.aload_n 0, 1) := by decide +kernel
theorem dM_boardBy_11 : decode bM_boardBy 11 = .ok (.invokevirtual 209, 3) := by decide +kernel
theorem dM_boardBy_14 : decode bM_boardBy 14 = .ok (.ireturn, 1) := by decide +kernel
theorem dM_boardOf_0 : decode bM_boardOf 0 = .ok (.aload_n 0, 1) := by decide +kernel
theorem dM_boardOf_1 : decode bM_boardOf 1 = .ok (.iload_n 1, 1) := by decide +kernel
theorem dM_boardOf_2 : decode bM_boardOf 2 = .ok (.invokevirtual 212, 3) := by decide +kernel
theorem dM_boardOf_5 : decode bM_boardOf 5 = .ok (.istore_n 3, 1) := by decide +kernel
theorem dM_boardOf_6 : decode bM_boardOf 6 = .ok (.iconst 0, 1) := by decide +kernel
theorem dM_boardOf_7 : decode bM_boardOf 7 = .ok (.istore 4, 2) := by decide +kernel
theorem dM_boardOf_9 : decode bM_boardOf 9 = .ok (.iconst 0, 1) := by decide +kernel
theorem dM_boardOf_10 : decode bM_boardOf 10 = .ok (.istore 5, 2) := by decide +kernel
theorem dM_boardOf_12 : decode bM_boardOf 12 = .ok (.iload 5, 2) := by decide +kernel
theorem dM_boardOf_14 : decode bM_boardOf 14 = .ok (.aload_n 0, 1) := by decide +kernel
theorem dM_boardOf_15 : decode bM_boardOf 15 = .ok (.getfield 89, 3) := by decide +kernel
theorem dM_boardOf_18 : decode bM_boardOf 18 = .ok (.if_icmp .ge 21, 3) := by decide +kernel
theorem dM_boardOf_21 : decode bM_boardOf 21 = .ok (.iload 4, 2) := by decide +kernel
theorem dM_boardOf_23 : decode bM_boardOf 23 = .ok (.aload_n 0, 1) := by decide +kernel
theorem dM_boardOf_24 : decode bM_boardOf 24 = .ok (.getfield 40, 3) := by decide +kernel
theorem dM_boardOf_27 : decode bM_boardOf 27 = .ok (.iload 5, 2) := by decide +kernel
theorem dM_boardOf_29 : decode bM_boardOf 29 = .ok (.iaload, 1) := by decide +kernel
theorem dM_boardOf_30 : decode bM_boardOf 30 = .ok (.iadd, 1) := by decide +kernel
theorem dM_boardOf_31 : decode bM_boardOf 31 = .ok (.istore 4, 2) := by decide +kernel
theorem dM_boardOf_33 : decode bM_boardOf 33 = .ok (.iinc 5 1, 3) := by decide +kernel
theorem dM_boardOf_36 : decode bM_boardOf 36 = .ok (.goto (-24), 3) := by decide +kernel
theorem dM_boardOf_39 : decode bM_boardOf 39 = .ok (.iload_n 2, 1) := by decide +kernel
theorem dM_boardOf_40 : decode bM_boardOf 40 = .ok (.ifCond .ne 7, 3) := by decide +kernel
theorem dM_boardOf_43 : decode bM_boardOf 43 = .ok (.iload_n 3, 1) := by decide +kernel
theorem dM_boardOf_44 : decode bM_boardOf 44 = .ok (.goto 17, 3) := by decide +kernel
theorem dM_boardOf_47 : decode bM_boardOf 47 = .ok (.iload_n 2, 1) := by decide +kernel
theorem dM_boardOf_48 : decode bM_boardOf 48 = .ok (.iconst 1, 1) := by decide +kernel
theorem dM_boardOf_49 : decode bM_boardOf 49 = .ok (.if_icmp .ne 10, 3) := by decide +kernel
theorem dM_boardOf_52 : decode bM_boardOf 52 = .ok (.aload_n 0, 1) := by decide +kernel
theorem dM_boardOf_53 : decode bM_boardOf 53 = .ok (.getfield 184, 3) := by decide +kernel
theorem dM_boardOf_56 : decode bM_boardOf 56 = .ok (.goto 5, 3) := by decide +kernel
theorem dM_boardOf_59 : decode bM_boardOf 59 = .ok (.iload 4, 2) := by decide +kernel
theorem dM_boardOf_61 : decode bM_boardOf 61 = .ok (.ireturn, 1) := by decide +kernel
theorem dM_board_0 : decode bM_board 0 = .ok (.aload_n 0, 1) := by decide +kernel
theorem dM_board_1 : decode bM_board 1 = .ok (.iload_n 1, 1) := by decide +kernel
theorem dM_board_2 : decode bM_board 2 = .ok (.invokevirtual 169, 3) := by decide +kernel
theorem dM_board_5 : decode bM_board 5 = .ok (.ifCond .ne 6, 3) := by decide +kernel
theorem dM_board_8 : decode bM_board 8 = .ok (.bipush (-101), 2) := by decide +kernel
theorem dM_board_10 : decode bM_board 10 = .ok (.ireturn, 1) := by decide +kernel
theorem dM_board_11 : decode bM_board 11 = .ok (.aload_n 0, 1) := by decide +kernel
theorem dM_board_12 : decode bM_board 12 = .ok (.invokevirtual 95, 3) := by decide +kernel
theorem dM_board_15 : decode bM_board 15 = .ok (.ifCond .eq 6, 3) := by decide +kernel
theorem dM_board_18 : decode bM_board 18 = .ok (.bipush (-103), 2) := by decide +kernel
theorem dM_board_20 : decode bM_board 20 = .ok (.ireturn, 1) := by decide +kernel
theorem dM_board_21 : decode bM_board 21 = .ok (.iload_n 2, 1) := by decide +kernel
theorem dM_board_22 : decode bM_board 22 = .ok (.i2l, 1) := by decide +kernel
theorem dM_board_23 : decode bM_board 23 = .ok (.lconst 0, 1) := by decide +kernel
theorem dM_board_24 : decode bM_board 24 = .ok (.ldc2_w 68, 3) := by decide +kernel
theorem dM_board_27 : decode bM_board 27 = .ok (.invokestatic 72, 3) := by decide +kernel
theorem dM_board_30 : decode bM_board 30 = .ok (.ifCond .eq 12, 3) := by decide +kernel
theorem dM_board_33 : decode bM_board 33 = .ok (.aload_n 0, 1) := by decide +kernel
theorem dM_board_34 : decode bM_board 34 = .ok (.iload_n 1, 1) := by decide +kernel
theorem dM_board_35 : decode bM_board 35 = .ok (.iload_n 2, 1) := by decide +kernel
theorem dM_board_36 : decode bM_board 36 = .ok (.invokevirtual 215, 3) := by decide +kernel
theorem dM_board_39 : decode bM_board 39 = .ok (.goto 5, 3) := by decide +kernel
theorem dM_board_42 : decode bM_board 42 = .ok (.bipush (-102), 2) := by decide +kernel
theorem dM_board_44 : decode bM_board 44 = .ok (.ireturn, 1) := by decide +kernel
theorem dM_sits_0 : decode bM_sits 0 = .ok (.aload_n 0, 1) := by decide +kernel
theorem dM_sits_1 : decode bM_sits 1 = .ok (.iload_n 1, 1) := by decide +kernel
theorem dM_sits_2 : decode bM_sits 2 = .ok (.invokevirtual 169, 3) := by decide +kernel
theorem dM_sits_5 : decode bM_sits 5 = .ok (.ifCond .eq 11, 3) := by decide +kernel
theorem dM_sits_8 : decode bM_sits 8 = .ok (.aload_n 0, 1) := by decide +kernel
theorem dM_sits_9 : decode bM_sits 9 = .ok (.iload_n 2, 1) := by decide +kernel
theorem dM_sits_10 : decode bM_sits 10 = .ok (.invokevirtual 99, 3) := by decide +kernel
theorem dM_sits_13 : decode bM_sits 13 = .ok (.ifCond .ne 6, 3) := by decide +kernel
theorem dM_sits_16 : decode bM_sits 16 = .ok (.bipush (-101), 2) := by decide +kernel
theorem dM_sits_18 : decode bM_sits 18 = .ok (.ireturn, 1) := by decide +kernel
theorem dM_sits_19 : decode bM_sits 19 = .ok (.iload_n 3, 1) := by decide +kernel
theorem dM_sits_20 : decode bM_sits 20 = .ok (.i2l, 1) := by decide +kernel
theorem dM_sits_21 : decode bM_sits 21 = .ok (.lconst 0, 1) := by decide +kernel
theorem dM_sits_22 : decode bM_sits 22 = .ok (.ldc2_w 219, 3) := by decide +kernel
theorem dM_sits_25 : decode bM_sits 25 = .ok (.invokestatic 72, 3) := by decide +kernel
theorem dM_sits_28 : decode bM_sits 28 = .ok (.ifCond .ne 6, 3) := by decide +kernel
theorem dM_sits_31 : decode bM_sits 31 = .ok (.bipush (-102), 2) := by decide +kernel
theorem dM_sits_33 : decode bM_sits 33 = .ok (.ireturn, 1) := by decide +kernel
theorem dM_sits_34 : decode bM_sits 34 = .ok (.aload_n 0, 1) := by decide +kernel
theorem dM_sits_35 : decode bM_sits 35 = .ok (.iload_n 1, 1) := by decide +kernel
theorem dM_sits_36 : decode bM_sits 36 = .ok (.invokevirtual 212, 3) := by decide +kernel
theorem dM_sits_39 : decode bM_sits 39 = .ok (.istore 4, 2) := by decide +kernel
theorem dM_sits_41 : decode bM_sits 41 = .ok (.iload_n 3, 1) := by decide +kernel
theorem dM_sits_42 : decode bM_sits 42 = .ok (.ifCond .ne 12, 3) := by decide +kernel
theorem dM_sits_45 : decode bM_sits 45 = .ok (.aload_n 0, 1) := by decide +kernel
theorem dM_sits_46 : decode bM_sits 46 = .ok (.getfield 37, 3) := by decide +kernel
theorem dM_sits_49 : decode bM_sits 49 = .ok (.iload_n 2, 1) := by decide +kernel
theorem dM_sits_50 : decode bM_sits 50 = .ok (.iaload, 1) := by decide +kernel
theorem dM_sits_51 : decode bM_sits 51 = .ok (.goto 29, 3) := by decide +kernel
theorem dM_sits_54 : decode bM_sits 54 = .ok (.iload_n 3, 1) := by decide +kernel
theorem dM_sits_55 : decode bM_sits 55 = .ok (.iconst 1, 1) := by decide +kernel
theorem dM_sits_56 : decode bM_sits 56 = .ok (.if_icmp .ne 12, 3) := by decide +kernel
theorem dM_sits_59 : decode bM_sits 59 = .ok (.aload_n 0, 1) := by decide +kernel
theorem dM_sits_60 : decode bM_sits 60 = .ok (.getfield 40, 3) := by decide +kernel
theorem dM_sits_63 : decode bM_sits 63 = .ok (.iload_n 2, 1) := by decide +kernel
theorem dM_sits_64 : decode bM_sits 64 = .ok (.iaload, 1) := by decide +kernel
theorem dM_sits_65 : decode bM_sits 65 = .ok (.goto 15, 3) := by decide +kernel
theorem dM_sits_68 : decode bM_sits 68 = .ok (.aload_n 0, 1) := by decide +kernel
theorem dM_sits_69 : decode bM_sits 69 = .ok (.getfield 46, 3) := by decide +kernel
theorem dM_sits_72 : decode bM_sits 72 = .ok (.iconst 3, 1) := by decide +kernel
theorem dM_sits_73 : decode bM_sits 73 = .ok (.iload_n 2, 1) := by decide +kernel
theorem dM_sits_74 : decode bM_sits 74 = .ok (.imul, 1) := by decide +kernel
theorem dM_sits_75 : decode bM_sits 75 = .ok (.iload_n 3, 1) := by decide +kernel
theorem dM_sits_76 : decode bM_sits 76 = .ok (.iadd, 1) := by decide +kernel
theorem dM_sits_77 : decode bM_sits 77 = .ok (.iconst 2, 1) := by decide +kernel
theorem dM_sits_78 : decode bM_sits 78 = .ok (.isub, 1) := by decide +kernel
theorem dM_sits_79 : decode bM_sits 79 = .ok (.iaload, 1) := by decide +kernel
theorem dM_sits_80 : decode bM_sits 80 = .ok (.ireturn, 1) := by decide +kernel
theorem dM_stands_0 : decode bM_stands 0 = .ok (.aload_n 0, 1) := by decide +kernel
theorem dM_stands_1 : decode bM_stands 1 = .ok (.iload_n 1, 1) := by decide +kernel
theorem dM_stands_2 : decode bM_stands 2 = .ok (.invokevirtual 169, 3) := by decide +kernel
theorem dM_stands_5 : decode bM_stands 5 = .ok (.ifCond .ne 6, 3) := by decide +kernel
theorem dM_stands_8 : decode bM_stands 8 = .ok (.bipush (-101), 2) := by decide +kernel
theorem dM_stands_10 : decode bM_stands 10 = .ok (.ireturn, 1) := by decide +kernel
theorem dM_stands_11 : decode bM_stands 11 = .ok (.aload_n 0, 1) := by decide +kernel
theorem dM_stands_12 : decode bM_stands 12 = .ok (.invokevirtual 95, 3) := by decide +kernel
theorem dM_stands_15 : decode bM_stands 15 = .ok (.ifCond .eq 6, 3) := by decide +kernel
theorem dM_stands_18 : decode bM_stands 18 = .ok (.bipush (-103), 2) := by decide +kernel
theorem dM_stands_20 : decode bM_stands 20 = .ok (.ireturn, 1) := by decide +kernel
theorem dM_stands_21 : decode bM_stands 21 = .ok (.iload_n 2, 1) := by decide +kernel
theorem dM_stands_22 : decode bM_stands 22 = .ok (.i2l, 1) := by decide +kernel
theorem dM_stands_23 : decode bM_stands 23 = .ok (.lconst 1, 1) := by decide +kernel
theorem dM_stands_24 : decode bM_stands 24 = .ok (.ldc2_w 103, 3) := by decide +kernel
theorem dM_stands_27 : decode bM_stands 27 = .ok (.invokestatic 72, 3) := by decide +kernel
theorem dM_stands_30 : decode bM_stands 30 = .ok (.ifCond .eq 19, 3) := by decide +kernel
theorem dM_stands_33 : decode bM_stands 33 = .ok (.iload_n 3, 1) := by decide +kernel
theorem dM_stands_34 : decode bM_stands 34 = .ok (.i2l, 1) := by decide +kernel
theorem dM_stands_35 : decode bM_stands 35 = .ok (.lconst 0, 1) := by decide +kernel
theorem dM_stands_36 : decode bM_stands 36 = .ok (.aload_n 0, 1) := by decide +kernel
theorem dM_stands_37 : decode bM_stands 37 = .ok (.getfield 80, 3) := by decide +kernel
theorem dM_stands_40 : decode bM_stands 40 = .ok (.iconst 1, 1) := by decide +kernel
theorem dM_stands_41 : decode bM_stands 41 = .ok (.isub, 1) := by decide +kernel
theorem dM_stands_42 : decode bM_stands 42 = .ok (.i2l, 1) := by decide +kernel
theorem dM_stands_43 : decode bM_stands 43 = .ok (.invokestatic 72, 3) := by decide +kernel
theorem dM_stands_46 : decode bM_stands 46 = .ok (.ifCond .ne 6, 3) := by decide +kernel
theorem dM_stands_49 : decode bM_stands 49 = .ok (.bipush (-102), 2) := by decide +kernel
theorem dM_stands_51 : decode bM_stands 51 = .ok (.ireturn, 1) := by decide +kernel
theorem dM_stands_52 : decode bM_stands 52 = .ok (.aload_n 0, 1) := by decide +kernel
theorem dM_stands_53 : decode bM_stands 53 = .ok (.iconst 3, 1) := by decide +kernel
theorem dM_stands_54 : decode bM_stands 54 = .ok (.invokevirtual 174, 3) := by decide +kernel
theorem dM_stands_57 : decode bM_stands 57 = .ok (.aload_n 0, 1) := by decide +kernel
theorem dM_stands_58 : decode bM_stands 58 = .ok (.iload_n 1, 1) := by decide +kernel
theorem dM_stands_59 : decode bM_stands 59 = .ok (.invokevirtual 178, 3) := by decide +kernel
theorem dM_stands_62 : decode bM_stands 62 = .ok (.aload_n 0, 1) := by decide +kernel
theorem dM_stands_63 : decode bM_stands 63 = .ok (.invokevirtual 203, 3) := by decide +kernel
theorem dM_stands_66 : decode bM_stands 66 = .ok (.iconst 1, 1) := by decide +kernel
theorem dM_stands_67 : decode bM_stands 67 = .ok (.istore 4, 2) := by decide +kernel
theorem dM_stands_69 : decode bM_stands 69 = .ok (.iload 4, 2) := by decide +kernel
theorem dM_stands_71 : decode bM_stands 71 = .ok (.iload_n 2, 1) := by decide +kernel
theorem dM_stands_72 : decode bM_stands 72 = .ok (.if_icmp .gt 26, 3) := by decide +kernel
theorem dM_stands_75 : decode bM_stands 75 = .ok (.aload_n 0, 1) := by decide +kernel
theorem dM_stands_76 : decode bM_stands 76 = .ok (.getfield 187, 3) := by decide +kernel
theorem dM_stands_79 : decode bM_stands 79 = .ok (.aload_n 0, 1) := by decide +kernel
theorem dM_stands_80 : decode bM_stands 80 = .ok (.getfield 156, 3) := by decide +kernel
theorem dM_stands_83 : decode bM_stands 83 = .ok (.if_icmp .ge 15, 3) := by decide +kernel
theorem dM_stands_86 : decode bM_stands 86 = .ok (.aload_n 0, 1) := by decide +kernel
theorem dM_stands_87 : decode bM_stands 87 = .ok (.iload 4, 2) := by decide +kernel
theorem dM_stands_89 : decode bM_stands 89 = .ok (.invokevirtual 206, 3) := by decide +kernel
theorem dM_stands_92 : decode bM_stands 92 = .ok (.iinc 4 1, 3) := by decide +kernel
theorem dM_stands_95 : decode bM_stands 95 = .ok (.goto (-26), 3) := by decide +kernel
theorem dM_stands_98 : decode bM_stands 98 = .ok (.aload_n 0, 1) := by decide +kernel
theorem dM_stands_99 : decode bM_stands 99 = .ok (.getfield 31, 3) := by decide +kernel
theorem dM_stands_102 : decode bM_stands 102 = .ok (.iload_n 3, 1) := by decide +kernel
theorem dM_stands_103 : decode bM_stands 103 = .ok (.iaload, 1) := by decide +kernel
theorem dM_stands_104 : decode bM_stands 104 = .ok (.ireturn, 1) := by decide +kernel
theorem dM_leastOf_0 : decode bM_leastOf 0 = .ok (.iconst (-1), 1) := by decide +kernel
theorem dM_leastOf_1 : decode bM_leastOf 1 = .ok (.istore_n 1, 1) := by decide +kernel
theorem dM_leastOf_2 : decode bM_leastOf 2 = .ok (.ldc 221, 2) := by decide +kernel
theorem dM_leastOf_4 : decode bM_leastOf 4 = .ok (.istore_n 2, 1) := by decide +kernel
theorem dM_leastOf_5 : decode bM_leastOf 5 = .ok (.iconst 0, 1) := by decide +kernel
theorem dM_leastOf_6 : decode bM_leastOf 6 = .ok (.istore_n 3, 1) := by decide +kernel
theorem dM_leastOf_7 : decode bM_leastOf 7 = .ok (.iload_n 3, 1) := by decide +kernel
theorem dM_leastOf_8 : decode bM_leastOf 8 = .ok (.aload_n 0, 1) := by decide +kernel
theorem dM_leastOf_9 : decode bM_leastOf 9 = .ok (.getfield 136, 3) := by decide +kernel
theorem dM_leastOf_12 : decode bM_leastOf 12 = .ok (.if_icmp .ge 41, 3) := by decide +kernel
theorem dM_leastOf_15 : decode bM_leastOf 15 = .ok (.aload_n 0, 1) := by decide +kernel
theorem dM_leastOf_16 : decode bM_leastOf 16 = .ok (.iload_n 3, 1) := by decide +kernel
theorem dM_leastOf_17 : decode bM_leastOf 17 = .ok (.invokevirtual 212, 3) := by decide +kernel
theorem dM_leastOf_20 : decode bM_leastOf 20 = .ok (.istore 4, 2) := by decide +kernel
theorem dM_leastOf_22 : decode bM_leastOf 22 = .ok (.iload 4, 2) := by decide +kernel
theorem dM_leastOf_24 : decode bM_leastOf 24 = .ok (.iload_n 2, 1) := by decide +kernel
theorem dM_leastOf_25 : decode bM_leastOf 25 = .ok (.if_icmp .ge 7, 3) := by decide +kernel
theorem dM_leastOf_28 : decode bM_leastOf 28 = .ok (.iload_n 3, 1) := by decide +kernel
theorem dM_leastOf_29 : decode bM_leastOf 29 = .ok (.goto 4, 3) := by decide +kernel
theorem dM_leastOf_32 : decode bM_leastOf 32 = .ok (.iload_n 1, 1) := by decide +kernel
theorem dM_leastOf_33 : decode bM_leastOf 33 = .ok (.istore_n 1, 1) := by decide +kernel
theorem dM_leastOf_34 : decode bM_leastOf 34 = .ok (.iload 4, 2) := by decide +kernel
theorem dM_leastOf_36 : decode bM_leastOf 36 = .ok (.iload_n 2, 1) := by decide +kernel
theorem dM_leastOf_37 : decode bM_leastOf 37 = .ok (.if_icmp .ge 8, 3) := by decide +kernel
theorem dM_leastOf_40 : decode bM_leastOf 40 = .ok (.iload 4, 2) := by decide +kernel
theorem dM_leastOf_42 : decode bM_leastOf 42 = .ok (.goto 4, 3) := by decide +kernel
theorem dM_leastOf_45 : decode bM_leastOf 45 = .ok (.iload_n 2, 1) := by decide +kernel
theorem dM_leastOf_46 : decode bM_leastOf 46 = .ok (.istore_n 2, 1) := by decide +kernel
theorem dM_leastOf_47 : decode bM_leastOf 47 = .ok (.iinc 3 1, 3) := by decide +kernel
theorem dM_leastOf_50 : decode bM_leastOf 50 = .ok (.goto (-43), 3) := by decide +kernel
theorem dM_leastOf_53 : decode bM_leastOf 53 = .ok (.iload_n 1, 1) := by decide +kernel
theorem dM_leastOf_54 : decode bM_leastOf 54 = .ok (.ireturn, 1) := by decide +kernel
theorem dM_least_0 : decode bM_least 0 = .ok (.aload_n 0, 1) := by decide +kernel
theorem dM_least_1 : decode bM_least 1 = .ok (.invokevirtual 95, 3) := by decide +kernel
theorem dM_least_4 : decode bM_least 4 = .ok (.ifCond .eq 8, 3) := by decide +kernel
theorem dM_least_7 : decode bM_least 7 = .ok (.bipush (-103), 2) := by decide +kernel
theorem dM_least_9 : decode bM_least 9 = .ok (.goto 7, 3) := by decide +kernel
theorem dM_least_12 : decode bM_least 12 = .ok (.aload_n 0, 1) := by decide +kernel
theorem dM_least_13 : decode bM_least 13 = .ok (.invokevirtual 222, 3) := by decide +kernel
theorem dM_least_16 : decode bM_least 16 = .ok (.ireturn, 1) := by decide +kernel
theorem dM_layNumber_0 : decode bM_layNumber 0 = .ok (.iload_n 1, 1) := by decide +kernel
theorem dM_layNumber_1 : decode bM_layNumber 1 = .ok (.istore_n 2, 1) := by decide +kernel
theorem dM_layNumber_2 : decode bM_layNumber 2 = .ok (.iconst 0, 1) := by decide +kernel
theorem dM_layNumber_3 : decode bM_layNumber 3 = .ok (.istore_n 3, 1) := by decide +kernel
theorem dM_layNumber_4 : decode bM_layNumber 4 = .ok (.aload_n 0, 1) := by decide +kernel
theorem dM_layNumber_5 : decode bM_layNumber 5 = .ok (.aload_n 0, 1) := by decide +kernel
theorem dM_layNumber_6 : decode bM_layNumber 6 = .ok (.getfield 89, 3) := by decide +kernel
theorem dM_layNumber_9 : decode bM_layNumber 9 = .ok (.putfield 156, 3) := by decide +kernel
theorem dM_layNumber_12 : decode bM_layNumber 12 = .ok (.aload_n 0, 1) := by decide +kernel
theorem dM_layNumber_13 : decode bM_layNumber 13 = .ok (.getfield 89, 3) := by decide +kernel
theorem dM_layNumber_16 : decode bM_layNumber 16 = .ok (.iconst 1, 1) := by decide +kernel
theorem dM_layNumber_17 : decode bM_layNumber 17 = .ok (.isub, 1) := by decide +kernel
theorem dM_layNumber_18 : decode bM_layNumber 18 = .ok (.istore 4, 2) := by decide +kernel
theorem dM_layNumber_20 : decode bM_layNumber 20 = .ok (.iload 4, 2) := by decide +kernel
theorem dM_layNumber_22 : decode bM_layNumber 22 = .ok (.ifCond .lt 41, 3) := by decide +kernel
theorem dM_layNumber_25 : decode bM_layNumber 25 = .ok (.aload_n 0, 1) := by decide +kernel
theorem dM_layNumber_26 : decode bM_layNumber 26 = .ok (.getfield 28, 3) := by decide +kernel
theorem dM_layNumber_29 : decode bM_layNumber 29 = .ok (.iload 4, 2) := by decide +kernel
theorem dM_layNumber_31 : decode bM_layNumber 31 = .ok (.iload_n 2, 1) := by decide +kernel
theorem dM_layNumber_32 : decode bM_layNumber 32 = .ok (.aload_n 0, 1) := by decide +kernel
theorem dM_layNumber_33 : decode bM_layNumber 33 = .ok (.getfield 89, 3) := by decide +kernel
theorem dM_layNumber_36 : decode bM_layNumber 36 = .ok (.irem, 1) := by decide +kernel
theorem dM_layNumber_37 : decode bM_layNumber 37 = .ok (.iastore, 1) := by decide +kernel
theorem dM_layNumber_38 : decode bM_layNumber 38 = .ok (.iload_n 2, 1) := by decide +kernel
theorem dM_layNumber_39 : decode bM_layNumber 39 = .ok (.aload_n 0, 1) := by decide +kernel
theorem dM_layNumber_40 : decode bM_layNumber 40 = .ok (.getfield 89, 3) := by decide +kernel
theorem dM_layNumber_43 : decode bM_layNumber 43 = .ok (.idiv, 1) := by decide +kernel
theorem dM_layNumber_44 : decode bM_layNumber 44 = .ok (.istore_n 2, 1) := by decide +kernel
theorem dM_layNumber_45 : decode bM_layNumber 45 = .ok (.iload_n 3, 1) := by decide +kernel
theorem dM_layNumber_46 : decode bM_layNumber 46 = .ok (.iconst 1, 1) := by decide +kernel
theorem dM_layNumber_47 : decode bM_layNumber 47 = .ok (.aload_n 0, 1) := by decide +kernel
theorem dM_layNumber_48 : decode bM_layNumber 48 = .ok (.getfield 28, 3) := by decide +kernel
theorem dM_layNumber_51 : decode bM_layNumber 51 = .ok (.iload 4, 2) := by decide +kernel
theorem dM_layNumber_53 : decode bM_layNumber 53 = .ok (.iaload, 1) := by decide +kernel
theorem dM_layNumber_54 : decode bM_layNumber 54 = .ok (.ishl, 1) := by decide +kernel
theorem dM_layNumber_55 : decode bM_layNumber 55 = .ok (.ior, 1) := by decide +kernel
theorem dM_layNumber_56 : decode bM_layNumber 56 = .ok (.istore_n 3, 1) := by decide +kernel
theorem dM_layNumber_57 : decode bM_layNumber 57 = .ok (.iinc 4 (-1), 3) := by decide +kernel
theorem dM_layNumber_60 : decode bM_layNumber 60 = .ok (.goto (-40), 3) := by decide +kernel
theorem dM_layNumber_63 : decode bM_layNumber 63 = .ok (.iload_n 3, 1) := by decide +kernel
theorem dM_layNumber_64 : decode bM_layNumber 64 = .ok (.aload_n 0, 1) := by decide +kernel
theorem dM_layNumber_65 : decode bM_layNumber 65 = .ok (.invokevirtual 225, 3) := by decide +kernel
theorem dM_layNumber_68 : decode bM_layNumber 68 = .ok (.if_icmp .ne 7, 3) := by decide +kernel
theorem dM_layNumber_71 : decode bM_layNumber 71 = .ok (.iconst 1, 1) := by decide +kernel
theorem dM_layNumber_72 : decode bM_layNumber 72 = .ok (.goto 4, 3) := by decide +kernel
theorem dM_layNumber_75 : decode bM_layNumber 75 = .ok (.iconst 0, 1) := by decide +kernel
theorem dM_layNumber_76 : decode bM_layNumber 76 = .ok (.ireturn, 1) := by decide +kernel
theorem dM_bestOrder_0 : decode bM_bestOrder 0 = .ok (.aload_n 0, 1) := by decide +kernel
theorem dM_bestOrder_1 : decode bM_bestOrder 1 = .ok (.invokevirtual 95, 3) := by decide +kernel
theorem dM_bestOrder_4 : decode bM_bestOrder 4 = .ok (.ifCond .eq 6, 3) := by decide +kernel
theorem dM_bestOrder_7 : decode bM_bestOrder 7 = .ok (.bipush (-103), 2) := by decide +kernel
theorem dM_bestOrder_9 : decode bM_bestOrder 9 = .ok (.ireturn, 1) := by decide +kernel
theorem dM_bestOrder_10 : decode bM_bestOrder 10 = .ok (.iload_n 1, 1) := by decide +kernel
theorem dM_bestOrder_11 : decode bM_bestOrder 11 = .ok (.i2l, 1) := by decide +kernel
theorem dM_bestOrder_12 : decode bM_bestOrder 12 = .ok (.lconst 0, 1) := by decide +kernel
theorem dM_bestOrder_13 : decode bM_bestOrder 13 = .ok (.ldc2_w 78, 3) := by decide +kernel
theorem dM_bestOrder_16 : decode bM_bestOrder 16 = .ok (.invokestatic 72, 3) := by decide +kernel
theorem dM_bestOrder_19 : decode bM_bestOrder 19 = .ok (.ifCond .ne 6, 3) := by decide +kernel
theorem dM_bestOrder_22 : decode bM_bestOrder 22 = .ok (.bipush (-102), 2) := by decide +kernel
theorem dM_bestOrder_24 : decode bM_bestOrder 24 = .ok (.ireturn, 1) := by decide +kernel
theorem dM_bestOrder_25 : decode bM_bestOrder 25 = .ok (.aload_n 0, 1) := by decide +kernel
theorem dM_bestOrder_26 : decode bM_bestOrder 26 = .ok (.getfield 89, 3) := by decide +kernel
theorem dM_bestOrder_29 : decode bM_bestOrder 29 = .ok (.bipush 6, 2) := by decide +kernel
theorem dM_bestOrder_31 : decode bM_bestOrder 31 = .ok (.if_icmp .gt 12, 3) := by decide +kernel
theorem dM_bestOrder_34 : decode bM_bestOrder 34 = .ok (.aload_n 0, 1) := by decide +kernel
theorem dM_bestOrder_35 : decode bM_bestOrder 35 = .ok (.getfield 228, 3) := by decide +kernel
theorem dM_bestOrder_38 : decode bM_bestOrder 38 = .ok (.bipush 20, 2) := by decide +kernel
theorem dM_bestOrder_40 : decode bM_bestOrder 40 = .ok (.if_icmp .ne 6, 3) := by decide +kernel
theorem dM_bestOrder_43 : decode bM_bestOrder 43 = .ok (.bipush (-103), 2) := by decide +kernel
theorem dM_bestOrder_45 : decode bM_bestOrder 45 = .ok (.ireturn, 1) := by decide +kernel
theorem dM_bestOrder_46 : decode bM_bestOrder 46 = .ok (.aload_n 0, 1) := by decide +kernel
theorem dM_bestOrder_47 : decode bM_bestOrder 47 = .ok (.dup, 1) := by decide +kernel
theorem dM_bestOrder_48 : decode bM_bestOrder 48 = .ok (.getfield 228, 3) := by decide +kernel
theorem dM_bestOrder_51 : decode bM_bestOrder 51 = .ok (.iconst 1, 1) := by decide +kernel
theorem dM_bestOrder_52 : decode bM_bestOrder 52 = .ok (.iadd, 1) := by decide +kernel
theorem dM_bestOrder_53 : decode bM_bestOrder 53 = .ok (.putfield 228, 3) := by decide +kernel
theorem dM_bestOrder_56 : decode bM_bestOrder 56 = .ok (.aload_n 0, 1) := by decide +kernel
theorem dM_bestOrder_57 : decode bM_bestOrder 57 = .ok (.iconst 3, 1) := by decide +kernel
theorem dM_bestOrder_58 : decode bM_bestOrder 58 = .ok (.invokevirtual 174, 3) := by decide +kernel
theorem dM_bestOrder_61 : decode bM_bestOrder 61 = .ok (.iconst 1, 1) := by decide +kernel
theorem dM_bestOrder_62 : decode bM_bestOrder 62 = .ok (.istore_n 2, 1) := by decide +kernel
theorem dM_bestOrder_63 : decode bM_bestOrder 63 = .ok (.iconst 0, 1) := by decide +kernel
theorem dM_bestOrder_64 : decode bM_bestOrder 64 = .ok (.istore_n 3, 1) := by decide +kernel
theorem dM_bestOrder_65 : decode bM_bestOrder 65 = .ok (.iload_n 3, 1) := by decide +kernel
theorem dM_bestOrder_66 : decode bM_bestOrder 66 = .ok (.aload_n 0, 1) := by decide +kernel
theorem dM_bestOrder_67 : decode bM_bestOrder 67 = .ok (.getfield 89, 3) := by decide +kernel
theorem dM_bestOrder_70 : decode bM_bestOrder 70 = .ok (.if_icmp .ge 16, 3) := by decide +kernel
theorem dM_bestOrder_73 : decode bM_bestOrder 73 = .ok (.iload_n 2, 1) := by decide +kernel
theorem dM_bestOrder_74 : decode bM_bestOrder 74 = .ok (.aload_n 0, 1) := by decide +kernel
theorem dM_bestOrder_75 : decode bM_bestOrder 75 = .ok (.getfield 89, 3) := by decide +kernel
theorem dM_bestOrder_78 : decode bM_bestOrder 78 = .ok (.imul, 1) := by decide +kernel
theorem dM_bestOrder_79 : decode bM_bestOrder 79 = .ok (.istore_n 2, 1) := by decide +kernel
theorem dM_bestOrder_80 : decode bM_bestOrder 80 = .ok (.iinc 3 1, 3) := by decide +kernel
theorem dM_bestOrder_83 : decode bM_bestOrder 83 = .ok (.goto (-18), 3) := by decide +kernel
theorem dM_bestOrder_86 : decode bM_bestOrder 86 = .ok (.ldc 221, 2) := by decide +kernel
theorem dM_bestOrder_88 : decode bM_bestOrder 88 = .ok (.istore_n 3, 1) := by decide +kernel
theorem dM_bestOrder_89 : decode bM_bestOrder 89 = .ok (.iconst 0, 1) := by decide +kernel
theorem dM_bestOrder_90 : decode bM_bestOrder 90 = .ok (.istore 4, 2) := by decide +kernel
theorem dM_bestOrder_92 : decode bM_bestOrder 92 = .ok (.iload 4, 2) := by decide +kernel
theorem dM_bestOrder_94 : decode bM_bestOrder 94 = .ok (.iload_n 2, 1) := by decide +kernel
theorem dM_bestOrder_95 : decode bM_bestOrder 95 = .ok (.if_icmp .ge 75, 3) := by decide +kernel
theorem dM_bestOrder_98 : decode bM_bestOrder 98 = .ok (.aload_n 0, 1) := by decide +kernel
theorem dM_bestOrder_99 : decode bM_bestOrder 99 = .ok (.iload 4, 2) := by decide +kernel
theorem dM_bestOrder_101 : decode bM_bestOrder 101 = .ok (.invokevirtual 231, 3) := by decide +kernel
theorem dM_bestOrder_104 : decode bM_bestOrder 104 = .ok (.ifCond .eq 60, 3) := by decide +kernel
theorem dM_bestOrder_107 : decode bM_bestOrder 107 = .ok (.aload_n 0, 1) := by decide +kernel
theorem dM_bestOrder_108 : decode bM_bestOrder 108 = .ok (.invokevirtual 209, 3) := by decide +kernel
theorem dM_bestOrder_111 : decode bM_bestOrder 111 = .ok (.istore 5, 2) := by decide +kernel
theorem dM_bestOrder_113 : decode bM_bestOrder 113 = .ok (.iconst 0, 1) := by decide +kernel
theorem dM_bestOrder_114 : decode bM_bestOrder 114 = .ok (.istore 6, 2) := by decide +kernel
theorem dM_bestOrder_116 : decode bM_bestOrder 116 = .ok (.iload 6, 2) := by decide +kernel
theorem dM_bestOrder_118 : decode bM_bestOrder 118 = .ok (.aload_n 0, 1) := by decide +kernel
theorem dM_bestOrder_119 : decode bM_bestOrder 119 = .ok (.getfield 89, 3) := by decide +kernel
theorem dM_bestOrder_122 : decode bM_bestOrder 122 = .ok (.if_icmp .ge 29, 3) := by decide +kernel
theorem dM_bestOrder_125 : decode bM_bestOrder 125 = .ok (.iload 5, 2) := by decide +kernel
theorem dM_bestOrder_127 : decode bM_bestOrder 127 = .ok (.iload_n 3, 1) := by decide +kernel
theorem dM_bestOrder_128 : decode bM_bestOrder 128 = .ok (.if_icmp .ge 23, 3) := by decide +kernel
theorem dM_bestOrder_131 : decode bM_bestOrder 131 = .ok (.aload_n 0, 1) := by decide +kernel
theorem dM_bestOrder_132 : decode bM_bestOrder 132 = .ok (.getfield 49, 3) := by decide +kernel
theorem dM_bestOrder_135 : decode bM_bestOrder 135 = .ok (.iload 6, 2) := by decide +kernel
theorem dM_bestOrder_137 : decode bM_bestOrder 137 = .ok (.aload_n 0, 1) := by decide +kernel
theorem dM_bestOrder_138 : decode bM_bestOrder 138 = .ok (.getfield 28, 3) := by decide +kernel
theorem dM_bestOrder_141 : decode bM_bestOrder 141 = .ok (.iload 6, 2) := by decide +kernel
theorem dM_bestOrder_143 : decode bM_bestOrder 143 = .ok (.iaload, 1) := by decide +kernel
theorem dM_bestOrder_144 : decode bM_bestOrder 144 = .ok (.iastore, 1) := by decide +kernel
theorem dM_bestOrder_145 : decode bM_bestOrder 145 = .ok (.iinc 6 1, 3) := by decide +kernel
theorem dM_bestOrder_148 : decode bM_bestOrder 148 = .ok (.goto (-32), 3) := by decide +kernel
theorem dM_bestOrder_151 : decode bM_bestOrder 151 = .ok (.iload 5, 2) := by decide +kernel
theorem dM_bestOrder_153 : decode bM_bestOrder 153 = .ok (.iload_n 3, 1) := by decide +kernel
theorem dM_bestOrder_154 : decode bM_bestOrder 154 = .ok (.if_icmp .ge 8, 3) := by decide +kernel
theorem dM_bestOrder_157 : decode bM_bestOrder 157 = .ok (.iload 5, 2) := by decide +kernel
theorem dM_bestOrder_159 : decode bM_bestOrder 159 = .ok (.goto 4, 3) := by decide +kernel
theorem dM_bestOrder_162 : decode bM_bestOrder 162 = .ok (.iload_n 3, 1) := by decide +kernel
theorem dM_bestOrder_163 : decode bM_bestOrder 163 = .ok (.istore_n 3, 1) := by decide +kernel
theorem dM_bestOrder_164 : decode bM_bestOrder 164 = .ok (.iinc 4 1, 3) := by decide +kernel
theorem dM_bestOrder_167 : decode bM_bestOrder 167 = .ok (.goto (-75), 3) := by decide +kernel
theorem dM_bestOrder_170 : decode bM_bestOrder 170 = .ok (.iload_n 1, 1) := by decide +kernel
theorem dM_bestOrder_171 : decode bM_bestOrder 171 = .ok (.ifCond .ne 7, 3) := by decide +kernel
theorem dM_bestOrder_174 : decode bM_bestOrder 174 = .ok (.iload_n 3, 1) := by decide +kernel
theorem dM_bestOrder_175 : decode bM_bestOrder 175 = .ok (.goto 23, 3) := by decide +kernel
theorem dM_bestOrder_178 : decode bM_bestOrder 178 = .ok (.iload_n 1, 1) := by decide +kernel
theorem dM_bestOrder_179 : decode bM_bestOrder 179 = .ok (.aload_n 0, 1) := by decide +kernel
theorem dM_bestOrder_180 : decode bM_bestOrder 180 = .ok (.getfield 89, 3) := by decide +kernel
theorem dM_bestOrder_183 : decode bM_bestOrder 183 = .ok (.if_icmp .gt 14, 3) := by decide +kernel
theorem dM_bestOrder_186 : decode bM_bestOrder 186 = .ok (.aload_n 0, 1) := by decide +kernel
theorem dM_bestOrder_187 : decode bM_bestOrder 187 = .ok (.getfield 49, 3) := by decide +kernel
theorem dM_bestOrder_190 : decode bM_bestOrder 190 = .ok (.iload_n 1, 1) := by decide +kernel
theorem dM_bestOrder_191 : decode bM_bestOrder 191 = .ok (.iconst 1, 1) := by decide +kernel
theorem dM_bestOrder_192 : decode bM_bestOrder 192 = .ok (.isub, 1) := by decide +kernel
theorem dM_bestOrder_193 : decode bM_bestOrder 193 = .ok (.iaload, 1) := by decide +kernel
theorem dM_bestOrder_194 : decode bM_bestOrder 194 = .ok (.goto 4, 3) := by decide +kernel
theorem dM_bestOrder_197 : decode bM_bestOrder 197 = .ok (.iconst (-1), 1) := by decide +kernel
theorem dM_bestOrder_198 : decode bM_bestOrder 198 = .ok (.ireturn, 1) := by decide +kernel
theorem dM_exchange_0 : decode bM_exchange 0 = .ok (.aload_n 0, 1) := by decide +kernel
theorem dM_exchange_1 : decode bM_exchange 1 = .ok (.getfield 28, 3) := by decide +kernel
theorem dM_exchange_4 : decode bM_exchange 4 = .ok (.iload_n 1, 1) := by decide +kernel
theorem dM_exchange_5 : decode bM_exchange 5 = .ok (.iaload, 1) := by decide +kernel
theorem dM_exchange_6 : decode bM_exchange 6 = .ok (.istore_n 3, 1) := by decide +kernel
theorem dM_exchange_7 : decode bM_exchange 7 = .ok (.aload_n 0, 1) := by decide +kernel
theorem dM_exchange_8 : decode bM_exchange 8 = .ok (.getfield 28, 3) := by decide +kernel
theorem dM_exchange_11 : decode bM_exchange 11 = .ok (.iload_n 1, 1) := by decide +kernel
theorem dM_exchange_12 : decode bM_exchange 12 = .ok (.aload_n 0, 1) := by decide +kernel
theorem dM_exchange_13 : decode bM_exchange 13 = .ok (.getfield 28, 3) := by decide +kernel
theorem dM_exchange_16 : decode bM_exchange 16 = .ok (.iload_n 2, 1) := by decide +kernel
theorem dM_exchange_17 : decode bM_exchange 17 = .ok (.iaload, 1) := by decide +kernel
theorem dM_exchange_18 : decode bM_exchange 18 = .ok (.iastore, 1) := by decide +kernel
theorem dM_exchange_19 : decode bM_exchange 19 = .ok (.aload_n 0, 1) := by decide +kernel
theorem dM_exchange_20 : decode bM_exchange 20 = .ok (.getfield 28, 3) := by decide +kernel
theorem dM_exchange_23 : decode bM_exchange 23 = .ok (.iload_n 2, 1) := by decide +kernel
theorem dM_exchange_24 : decode bM_exchange 24 = .ok (.iload_n 3, 1) := by decide +kernel
theorem dM_exchange_25 : decode bM_exchange 25 = .ok (.iastore, 1) := by decide +kernel
theorem dM_exchange_26 : decode bM_exchange 26 = .ok (.return_, 1) := by decide +kernel
theorem dM_swap_0 : decode bM_swap 0 = .ok (.aload_n 0, 1) := by decide +kernel
theorem dM_swap_1 : decode bM_swap 1 = .ok (.iload_n 1, 1) := by decide +kernel
theorem dM_swap_2 : decode bM_swap 2 = .ok (.invokevirtual 169, 3) := by decide +kernel
theorem dM_swap_5 : decode bM_swap 5 = .ok (.ifCond .ne 6, 3) := by decide +kernel
theorem dM_swap_8 : decode bM_swap 8 = .ok (.bipush (-101), 2) := by decide +kernel
theorem dM_swap_10 : decode bM_swap 10 = .ok (.ireturn, 1) := by decide +kernel
theorem dM_swap_11 : decode bM_swap 11 = .ok (.aload_n 0, 1) := by decide +kernel
theorem dM_swap_12 : decode bM_swap 12 = .ok (.invokevirtual 95, 3) := by decide +kernel
theorem dM_swap_15 : decode bM_swap 15 = .ok (.ifCond .eq 6, 3) := by decide +kernel
theorem dM_swap_18 : decode bM_swap 18 = .ok (.bipush (-103), 2) := by decide +kernel
theorem dM_swap_20 : decode bM_swap 20 = .ok (.ireturn, 1) := by decide +kernel
theorem dM_swap_21 : decode bM_swap 21 = .ok (.aload_n 0, 1) := by decide +kernel
theorem dM_swap_22 : decode bM_swap 22 = .ok (.iload_n 1, 1) := by decide +kernel
theorem dM_swap_23 : decode bM_swap 23 = .ok (.invokevirtual 212, 3) := by decide +kernel
theorem dM_swap_26 : decode bM_swap 26 = .ok (.istore_n 2, 1) := by decide +kernel
theorem dM_swap_27 : decode bM_swap 27 = .ok (.iconst (-1), 1) := by decide +kernel
theorem dM_swap_28 : decode bM_swap 28 = .ok (.istore_n 3, 1) := by decide +kernel
theorem dM_swap_29 : decode bM_swap 29 = .ok (.iconst 0, 1) := by decide +kernel
theorem dM_swap_30 : decode bM_swap 30 = .ok (.istore 4, 2) := by decide +kernel
theorem dM_swap_32 : decode bM_swap 32 = .ok (.iload 4, 2) := by decide +kernel
theorem dM_swap_34 : decode bM_swap 34 = .ok (.aload_n 0, 1) := by decide +kernel
theorem dM_swap_35 : decode bM_swap 35 = .ok (.getfield 156, 3) := by decide +kernel
theorem dM_swap_38 : decode bM_swap 38 = .ok (.if_icmp .ge 84, 3) := by decide +kernel
theorem dM_swap_41 : decode bM_swap 41 = .ok (.iload 4, 2) := by decide +kernel
theorem dM_swap_43 : decode bM_swap 43 = .ok (.iconst 1, 1) := by decide +kernel
theorem dM_swap_44 : decode bM_swap 44 = .ok (.iadd, 1) := by decide +kernel
theorem dM_swap_45 : decode bM_swap 45 = .ok (.istore 5, 2) := by decide +kernel
theorem dM_swap_47 : decode bM_swap 47 = .ok (.iload 5, 2) := by decide +kernel
theorem dM_swap_49 : decode bM_swap 49 = .ok (.aload_n 0, 1) := by decide +kernel
theorem dM_swap_50 : decode bM_swap 50 = .ok (.getfield 156, 3) := by decide +kernel
theorem dM_swap_53 : decode bM_swap 53 = .ok (.if_icmp .ge 63, 3) := by decide +kernel
theorem dM_swap_56 : decode bM_swap 56 = .ok (.aload_n 0, 1) := by decide +kernel
theorem dM_swap_57 : decode bM_swap 57 = .ok (.iload 4, 2) := by decide +kernel
theorem dM_swap_59 : decode bM_swap 59 = .ok (.iload 5, 2) := by decide +kernel
theorem dM_swap_61 : decode bM_swap 61 = .ok (.invokevirtual 234, 3) := by decide +kernel
theorem dM_swap_64 : decode bM_swap 64 = .ok (.aload_n 0, 1) := by decide +kernel
theorem dM_swap_65 : decode bM_swap 65 = .ok (.invokevirtual 209, 3) := by decide +kernel
theorem dM_swap_68 : decode bM_swap 68 = .ok (.istore 6, 2) := by decide +kernel
theorem dM_swap_70 : decode bM_swap 70 = .ok (.aload_n 0, 1) := by decide +kernel
theorem dM_swap_71 : decode bM_swap 71 = .ok (.iload 4, 2) := by decide +kernel
theorem dM_swap_73 : decode bM_swap 73 = .ok (.iload 5, 2) := by decide +kernel
theorem dM_swap_75 : decode bM_swap 75 = .ok (.invokevirtual 234, 3) := by decide +kernel
theorem dM_swap_78 : decode bM_swap 78 = .ok (.iload 6, 2) := by decide +kernel
theorem dM_swap_80 : decode bM_swap 80 = .ok (.iload_n 2, 1) := by decide +kernel
theorem dM_swap_81 : decode bM_swap 81 = .ok (.if_icmp .ge 14, 3) := by decide +kernel
theorem dM_swap_84 : decode bM_swap 84 = .ok (.bipush 16, 2) := by decide +kernel
theorem dM_swap_86 : decode bM_swap 86 = .ok (.iload 4, 2) := by decide +kernel
theorem dM_swap_88 : decode bM_swap 88 = .ok (.imul, 1) := by decide +kernel
theorem dM_swap_89 : decode bM_swap 89 = .ok (.iload 5, 2) := by decide +kernel
theorem dM_swap_91 : decode bM_swap 91 = .ok (.iadd, 1) := by decide +kernel
theorem dM_swap_92 : decode bM_swap 92 = .ok (.goto 4, 3) := by decide +kernel
theorem dM_swap_95 : decode bM_swap 95 = .ok (.iload_n 3, 1) := by decide +kernel
theorem dM_swap_96 : decode bM_swap 96 = .ok (.istore_n 3, 1) := by decide +kernel
theorem dM_swap_97 : decode bM_swap 97 = .ok (.iload 6, 2) := by decide +kernel
theorem dM_swap_99 : decode bM_swap 99 = .ok (.iload_n 2, 1) := by decide +kernel
theorem dM_swap_100 : decode bM_swap 100 = .ok (.if_icmp .ge 8, 3) := by decide +kernel
theorem dM_swap_103 : decode bM_swap 103 = .ok (.iload 6, 2) := by decide +kernel
theorem dM_swap_105 : decode bM_swap 105 = .ok (.goto 4, 3) := by decide +kernel
theorem dM_swap_108 : decode bM_swap 108 = .ok (.iload_n 2, 1) := by decide +kernel
theorem dM_swap_109 : decode bM_swap 109 = .ok (.istore_n 2, 1) := by decide +kernel
theorem dM_swap_110 : decode bM_swap 110 = .ok (.iinc 5 1, 3) := by decide +kernel
theorem dM_swap_113 : decode bM_swap 113 = .ok (.goto (-66), 3) := by decide +kernel
theorem dM_swap_116 : decode bM_swap 116 = .ok (.iinc 4 1, 3) := by decide +kernel
theorem dM_swap_119 : decode bM_swap 119 = .ok (.goto (-87), 3) := by decide +kernel
theorem dM_swap_122 : decode bM_swap 122 = .ok (.iload_n 3, 1) := by decide +kernel
theorem dM_swap_123 : decode bM_swap 123 = .ok (.ireturn, 1) := by decide +kernel
theorem dM_later_0 : decode bM_later 0 = .ok (.aload_n 0, 1) := by decide +kernel
theorem dM_later_1 : decode bM_later 1 = .ok (.iload_n 1, 1) := by decide +kernel
theorem dM_later_2 : decode bM_later 2 = .ok (.invokevirtual 169, 3) := by decide +kernel
theorem dM_later_5 : decode bM_later 5 = .ok (.ifCond .eq 11, 3) := by decide +kernel
theorem dM_later_8 : decode bM_later 8 = .ok (.aload_n 0, 1) := by decide +kernel
theorem dM_later_9 : decode bM_later 9 = .ok (.iload_n 2, 1) := by decide +kernel
theorem dM_later_10 : decode bM_later 10 = .ok (.invokevirtual 99, 3) := by decide +kernel
theorem dM_later_13 : decode bM_later 13 = .ok (.ifCond .ne 6, 3) := by decide +kernel
theorem dM_later_16 : decode bM_later 16 = .ok (.bipush (-101), 2) := by decide +kernel
theorem dM_later_18 : decode bM_later 18 = .ok (.ireturn, 1) := by decide +kernel
theorem dM_later_19 : decode bM_later 19 = .ok (.aload_n 0, 1) := by decide +kernel
theorem dM_later_20 : decode bM_later 20 = .ok (.iconst 3, 1) := by decide +kernel
theorem dM_later_21 : decode bM_later 21 = .ok (.invokevirtual 174, 3) := by decide +kernel
theorem dM_later_24 : decode bM_later 24 = .ok (.aload_n 0, 1) := by decide +kernel
theorem dM_later_25 : decode bM_later 25 = .ok (.iload_n 1, 1) := by decide +kernel
theorem dM_later_26 : decode bM_later 26 = .ok (.invokevirtual 178, 3) := by decide +kernel
theorem dM_later_29 : decode bM_later 29 = .ok (.aload_n 0, 1) := by decide +kernel
theorem dM_later_30 : decode bM_later 30 = .ok (.getfield 28, 3) := by decide +kernel
theorem dM_later_33 : decode bM_later 33 = .ok (.aload_n 0, 1) := by decide +kernel
theorem dM_later_34 : decode bM_later 34 = .ok (.getfield 156, 3) := by decide +kernel
theorem dM_later_37 : decode bM_later 37 = .ok (.iconst 1, 1) := by decide +kernel
theorem dM_later_38 : decode bM_later 38 = .ok (.isub, 1) := by decide +kernel
theorem dM_later_39 : decode bM_later 39 = .ok (.iaload, 1) := by decide +kernel
theorem dM_later_40 : decode bM_later 40 = .ok (.istore_n 3, 1) := by decide +kernel
theorem dM_later_41 : decode bM_later 41 = .ok (.iload_n 3, 1) := by decide +kernel
theorem dM_later_42 : decode bM_later 42 = .ok (.iload_n 2, 1) := by decide +kernel
theorem dM_later_43 : decode bM_later 43 = .ok (.if_icmp .eq 9, 3) := by decide +kernel
theorem dM_later_46 : decode bM_later 46 = .ok (.aload_n 0, 1) := by decide +kernel
theorem dM_later_47 : decode bM_later 47 = .ok (.iload_n 2, 1) := by decide +kernel
theorem dM_later_48 : decode bM_later 48 = .ok (.iload_n 3, 1) := by decide +kernel
theorem dM_later_49 : decode bM_later 49 = .ok (.invokevirtual 165, 3) := by decide +kernel
theorem dM_later_52 : decode bM_later 52 = .ok (.aload_n 0, 1) := by decide +kernel
theorem dM_later_53 : decode bM_later 53 = .ok (.invokevirtual 209, 3) := by decide +kernel
theorem dM_later_56 : decode bM_later 56 = .ok (.ireturn, 1) := by decide +kernel
theorem dM_bound_0 : decode bM_bound 0 = .ok (.aload_n 0, 1) := by decide +kernel
theorem dM_bound_1 : decode bM_bound 1 = .ok (.iload_n 1, 1) := by decide +kernel
theorem dM_bound_2 : decode bM_bound 2 = .ok (.invokevirtual 169, 3) := by decide +kernel
theorem dM_bound_5 : decode bM_bound 5 = .ok (.ifCond .ne 6, 3) := by decide +kernel
theorem dM_bound_8 : decode bM_bound 8 = .ok (.bipush (-101), 2) := by decide +kernel
theorem dM_bound_10 : decode bM_bound 10 = .ok (.ireturn, 1) := by decide +kernel
theorem dM_bound_11 : decode bM_bound 11 = .ok (.aload_n 0, 1) := by decide +kernel
theorem dM_bound_12 : decode bM_bound 12 = .ok (.invokevirtual 95, 3) := by decide +kernel
theorem dM_bound_15 : decode bM_bound 15 = .ok (.ifCond .eq 6, 3) := by decide +kernel
theorem dM_bound_18 : decode bM_bound 18 = .ok (.bipush (-103), 2) := by decide +kernel
theorem dM_bound_20 : decode bM_bound 20 = .ok (.ireturn, 1) := by decide +kernel
theorem dM_bound_21 : decode bM_bound 21 = .ok (.iload_n 2, 1) := by decide +kernel
theorem dM_bound_22 : decode bM_bound 22 = .ok (.i2l, 1) := by decide +kernel
theorem dM_bound_23 : decode bM_bound 23 = .ok (.lconst 0, 1) := by decide +kernel
theorem dM_bound_24 : decode bM_bound 24 = .ok (.ldc2_w 76, 3) := by decide +kernel
theorem dM_bound_27 : decode bM_bound 27 = .ok (.invokestatic 72, 3) := by decide +kernel
theorem dM_bound_30 : decode bM_bound 30 = .ok (.ifCond .ne 6, 3) := by decide +kernel
theorem dM_bound_33 : decode bM_bound 33 = .ok (.bipush (-102), 2) := by decide +kernel
theorem dM_bound_35 : decode bM_bound 35 = .ok (.ireturn, 1) := by decide +kernel
theorem dM_bound_36 : decode bM_bound 36 = .ok (.aload_n 0, 1) := by decide +kernel
theorem dM_bound_37 : decode bM_bound 37 = .ok (.iload_n 2, 1) := by decide +kernel
theorem dM_bound_38 : decode bM_bound 38 = .ok (.invokevirtual 174, 3) := by decide +kernel
theorem dM_bound_41 : decode bM_bound 41 = .ok (.aload_n 0, 1) := by decide +kernel
theorem dM_bound_42 : decode bM_bound 42 = .ok (.iload_n 1, 1) := by decide +kernel
theorem dM_bound_43 : decode bM_bound 43 = .ok (.invokevirtual 178, 3) := by decide +kernel
theorem dM_bound_46 : decode bM_bound 46 = .ok (.aload_n 0, 1) := by decide +kernel
theorem dM_bound_47 : decode bM_bound 47 = .ok (.invokevirtual 209, 3) := by decide +kernel
theorem dM_bound_50 : decode bM_bound 50 = .ok (.ireturn, 1) := by decide +kernel
theorem dM_layPart_0 : decode bM_layPart 0 = .ok (.aload_n 0, 1) := by decide +kernel
theorem dM_layPart_1 : decode bM_layPart 1 = .ok (.iconst 0, 1) := by decide +kernel
theorem dM_layPart_2 : decode bM_layPart 2 = .ok (.putfield 156, 3) := by decide +kernel
theorem dM_layPart_5 : decode bM_layPart 5 = .ok (.iconst 0, 1) := by decide +kernel
theorem dM_layPart_6 : decode bM_layPart 6 = .ok (.istore_n 3, 1) := by decide +kernel
theorem dM_layPart_7 : decode bM_layPart 7 = .ok (.iload_n 3, 1) := by decide +kernel
theorem dM_layPart_8 : decode bM_layPart 8 = .ok (.aload_n 0, 1) := by decide +kernel
theorem dM_layPart_9 : decode bM_layPart 9 = .ok (.getfield 89, 3) := by decide +kernel
theorem dM_layPart_12 : decode bM_layPart 12 = .ok (.if_icmp .ge 61, 3) := by decide +kernel
theorem dM_layPart_15 : decode bM_layPart 15 = .ok (.aload_n 0, 1) := by decide +kernel
theorem dM_layPart_16 : decode bM_layPart 16 = .ok (.getfield 7, 3) := by decide +kernel
theorem dM_layPart_19 : decode bM_layPart 19 = .ok (.bipush 7, 2) := by decide +kernel
theorem dM_layPart_21 : decode bM_layPart 21 = .ok (.aload_n 0, 1) := by decide +kernel
theorem dM_layPart_22 : decode bM_layPart 22 = .ok (.getfield 52, 3) := by decide +kernel
theorem dM_layPart_25 : decode bM_layPart 25 = .ok (.iload_n 3, 1) := by decide +kernel
theorem dM_layPart_26 : decode bM_layPart 26 = .ok (.iaload, 1) := by decide +kernel
theorem dM_layPart_27 : decode bM_layPart 27 = .ok (.imul, 1) := by decide +kernel
theorem dM_layPart_28 : decode bM_layPart 28 = .ok (.iconst 2, 1) := by decide +kernel
theorem dM_layPart_29 : decode bM_layPart 29 = .ok (.iadd, 1) := by decide +kernel
theorem dM_layPart_30 : decode bM_layPart 30 = .ok (.iaload, 1) := by decide +kernel
theorem dM_layPart_31 : decode bM_layPart 31 = .ok (.i2l, 1) := by decide +kernel
theorem dM_layPart_32 : decode bM_layPart 32 = .ok (.iload_n 1, 1) := by decide +kernel
theorem dM_layPart_33 : decode bM_layPart 33 = .ok (.i2l, 1) := by decide +kernel
theorem dM_layPart_34 : decode bM_layPart 34 = .ok (.iload_n 2, 1) := by decide +kernel
theorem dM_layPart_35 : decode bM_layPart 35 = .ok (.i2l, 1) := by decide +kernel
theorem dM_layPart_36 : decode bM_layPart 36 = .ok (.invokestatic 72, 3) := by decide +kernel
theorem dM_layPart_39 : decode bM_layPart 39 = .ok (.ifCond .eq 28, 3) := by decide +kernel
theorem dM_layPart_42 : decode bM_layPart 42 = .ok (.aload_n 0, 1) := by decide +kernel
theorem dM_layPart_43 : decode bM_layPart 43 = .ok (.getfield 28, 3) := by decide +kernel
theorem dM_layPart_46 : decode bM_layPart 46 = .ok (.aload_n 0, 1) := by decide +kernel
theorem dM_layPart_47 : decode bM_layPart 47 = .ok (.getfield 156, 3) := by decide +kernel
theorem dM_layPart_50 : decode bM_layPart 50 = .ok (.aload_n 0, 1) := by decide +kernel
theorem dM_layPart_51 : decode bM_layPart 51 = .ok (.getfield 52, 3) := by decide +kernel
theorem dM_layPart_54 : decode bM_layPart 54 = .ok (.iload_n 3, 1) := by decide +kernel
theorem dM_layPart_55 : decode bM_layPart 55 = .ok (.iaload, 1) := by decide +kernel
theorem dM_layPart_56 : decode bM_layPart 56 = .ok (.iastore, 1) := by decide +kernel
theorem dM_layPart_57 : decode bM_layPart 57 = .ok (.aload_n 0, 1) := by decide +kernel
theorem dM_layPart_58 : decode bM_layPart 58 = .ok (.dup, 1) := by decide +kernel
theorem dM_layPart_59 : decode bM_layPart 59 = .ok (.getfield 156, 3) := by decide +kernel
theorem dM_layPart_62 : decode bM_layPart 62 = .ok (.iconst 1, 1) := by decide +kernel
theorem dM_layPart_63 : decode bM_layPart 63 = .ok (.iadd, 1) := by decide +kernel
theorem dM_layPart_64 : decode bM_layPart 64 = .ok (.putfield 156, 3) := by decide +kernel
theorem dM_layPart_67 : decode bM_layPart 67 = .ok (.iinc 3 1, 3) := by decide +kernel
theorem dM_layPart_70 : decode bM_layPart 70 = .ok (.goto (-63), 3) := by decide +kernel
theorem dM_layPart_73 : decode bM_layPart 73 = .ok (.return_, 1) := by decide +kernel
theorem dM_doorsOf_0 : decode bM_doorsOf 0 = .ok (.aload_n 0, 1) := by decide +kernel
theorem dM_doorsOf_1 : decode bM_doorsOf 1 = .ok (.getfield 80, 3) := by decide +kernel
theorem dM_doorsOf_4 : decode bM_doorsOf 4 = .ok (.iconst 1, 1) := by decide +kernel
theorem dM_doorsOf_5 : decode bM_doorsOf 5 = .ok (.iadd, 1) := by decide +kernel
theorem dM_doorsOf_6 : decode bM_doorsOf 6 = .ok (.iconst 2, 1) := by decide +kernel
theorem dM_doorsOf_7 : decode bM_doorsOf 7 = .ok (.idiv, 1) := by decide +kernel
theorem dM_doorsOf_8 : decode bM_doorsOf 8 = .ok (.istore_n 2, 1) := by decide +kernel
theorem dM_doorsOf_9 : decode bM_doorsOf 9 = .ok (.aload_n 0, 1) := by decide +kernel
theorem dM_doorsOf_10 : decode bM_doorsOf 10 = .ok (.iconst 3, 1) := by decide +kernel
theorem dM_doorsOf_11 : decode bM_doorsOf 11 = .ok (.invokevirtual 174, 3) := by decide +kernel
theorem dM_doorsOf_14 : decode bM_doorsOf 14 = .ok (.aload_n 0, 1) := by decide +kernel
theorem dM_doorsOf_15 : decode bM_doorsOf 15 = .ok (.iload_n 1, 1) := by decide +kernel
theorem dM_doorsOf_16 : decode bM_doorsOf 16 = .ok (.invokevirtual 178, 3) := by decide +kernel
theorem dM_doorsOf_19 : decode bM_doorsOf 19 = .ok (.iconst 0, 1) := by decide +kernel
theorem dM_doorsOf_20 : decode bM_doorsOf 20 = .ok (.istore_n 3, 1) := by decide +kernel
theorem dM_doorsOf_21 : decode bM_doorsOf 21 = .ok (.iload_n 3, 1) := by decide +kernel
theorem dM_doorsOf_22 : decode bM_doorsOf 22 = .ok (.aload_n 0, 1) := by decide +kernel
theorem dM_doorsOf_23 : decode bM_doorsOf 23 = .ok (.getfield 89, 3) := by decide +kernel
theorem dM_doorsOf_26 : decode bM_doorsOf 26 = .ok (.if_icmp .ge 21, 3) := by decide +kernel
theorem dM_doorsOf_29 : decode bM_doorsOf 29 = .ok (.aload_n 0, 1) := by decide +kernel
theorem dM_doorsOf_30 : decode bM_doorsOf 30 = .ok (.getfield 52, 3) := by decide +kernel
theorem dM_doorsOf_33 : decode bM_doorsOf 33 = .ok (.iload_n 3, 1) := by decide +kernel
theorem dM_doorsOf_34 : decode bM_doorsOf 34 = .ok (.aload_n 0, 1) := by decide +kernel
theorem dM_doorsOf_35 : decode bM_doorsOf 35 = .ok (.getfield 28, 3) := by decide +kernel
theorem dM_doorsOf_38 : decode bM_doorsOf 38 = .ok (.iload_n 3, 1) := by decide +kernel
theorem dM_doorsOf_39 : decode bM_doorsOf 39 = .ok (.iaload, 1) := by decide +kernel
theorem dM_doorsOf_40 : decode bM_doorsOf 40 = .ok (.iastore, 1) := by decide +kernel
theorem dM_doorsOf_41 : decode bM_doorsOf 41 = .ok (.iinc 3 1, 3) := by decide +kernel
theorem dM_doorsOf_44 : decode bM_doorsOf 44 = .ok (.goto (-23), 3) := by decide +kernel
theorem dM_doorsOf_47 : decode bM_doorsOf 47 = .ok (.aload_n 0, 1) := by decide +kernel
theorem dM_doorsOf_48 : decode bM_doorsOf 48 = .ok (.iconst 0, 1) := by decide +kernel
theorem dM_doorsOf_49 : decode bM_doorsOf 49 = .ok (.iload_n 2, 1) := by decide +kernel
theorem dM_doorsOf_50 : decode bM_doorsOf 50 = .ok (.iconst 1, 1) := by decide +kernel
theorem dM_doorsOf_51 : decode bM_doorsOf 51 = .ok (.isub, 1) := by decide +kernel
theorem dM_doorsOf_52 : decode bM_doorsOf 52 = .ok (.invokevirtual 237, 3) := by decide +kernel
theorem dM_doorsOf_55 : decode bM_doorsOf 55 = .ok (.aload_n 0, 1) := by decide +kernel
theorem dM_doorsOf_56 : decode bM_doorsOf 56 = .ok (.iload_n 2, 1) := by decide +kernel
theorem dM_doorsOf_57 : decode bM_doorsOf 57 = .ok (.putfield 139, 3) := by decide +kernel
theorem dM_doorsOf_60 : decode bM_doorsOf 60 = .ok (.aload_n 0, 1) := by decide +kernel
theorem dM_doorsOf_61 : decode bM_doorsOf 61 = .ok (.invokevirtual 209, 3) := by decide +kernel
theorem dM_doorsOf_64 : decode bM_doorsOf 64 = .ok (.istore_n 3, 1) := by decide +kernel
theorem dM_doorsOf_65 : decode bM_doorsOf 65 = .ok (.aload_n 0, 1) := by decide +kernel
theorem dM_doorsOf_66 : decode bM_doorsOf 66 = .ok (.iload_n 2, 1) := by decide +kernel
theorem dM_doorsOf_67 : decode bM_doorsOf 67 = .ok (.aload_n 0, 1) := by decide +kernel
theorem dM_doorsOf_68 : decode bM_doorsOf 68 = .ok (.getfield 80, 3) := by decide +kernel
theorem dM_doorsOf_71 : decode bM_doorsOf 71 = .ok (.iconst 1, 1) := by decide +kernel
theorem dM_doorsOf_72 : decode bM_doorsOf 72 = .ok (.isub, 1) := by decide +kernel
theorem dM_doorsOf_73 : decode bM_doorsOf 73 = .ok (.invokevirtual 237, 3) := by decide +kernel
theorem dM_doorsOf_76 : decode bM_doorsOf 76 = .ok (.aload_n 0, 1) := by decide +kernel
theorem dM_doorsOf_77 : decode bM_doorsOf 77 = .ok (.aload_n 0, 1) := by decide +kernel
theorem dM_doorsOf_78 : decode bM_doorsOf 78 = .ok (.getfield 80, 3) := by decide +kernel
theorem dM_doorsOf_81 : decode bM_doorsOf 81 = .ok (.iload_n 2, 1) := by decide +kernel
theorem dM_doorsOf_82 : decode bM_doorsOf 82 = .ok (.isub, 1) := by decide +kernel
theorem dM_doorsOf_83 : decode bM_doorsOf 83 = .ok (.putfield 139, 3) := by decide +kernel
theorem dM_doorsOf_86 : decode bM_doorsOf 86 = .ok (.iconst 0, 1) := by decide +kernel
theorem dM_doorsOf_87 : decode bM_doorsOf 87 = .ok (.istore 4, 2) := by decide +kernel
theorem dM_doorsOf_89 : decode bM_doorsOf 89 = .ok (.iload 4, 2) := by decide +kernel
theorem dM_doorsOf_91 : decode bM_doorsOf 91 = .ok (.aload_n 0, 1) := by decide +kernel
theorem dM_doorsOf_92 : decode bM_doorsOf 92 = .ok (.getfield 89, 3) := by decide +kernel
theorem dM_doorsOf_95 : decode bM_doorsOf 95 = .ok (.if_icmp .ge 35, 3) := by decide +kernel
theorem dM_doorsOf_98 : decode bM_doorsOf 98 = .ok (.aload_n 0, 1) := by decide +kernel
theorem dM_doorsOf_99 : decode bM_doorsOf 99 = .ok (.getfield 22, 3) := by decide +kernel
theorem dM_doorsOf_102 : decode bM_doorsOf 102 = .ok (.iload 4, 2) := by decide +kernel
theorem dM_doorsOf_104 : decode bM_doorsOf 104 = .ok (.aload_n 0, 1) := by decide +kernel
theorem dM_doorsOf_105 : decode bM_doorsOf 105 = .ok (.getfield 80, 3) := by decide +kernel
theorem dM_doorsOf_108 : decode bM_doorsOf 108 = .ok (.iconst 1, 1) := by decide +kernel
theorem dM_doorsOf_109 : decode bM_doorsOf 109 = .ok (.isub, 1) := by decide +kernel
theorem dM_doorsOf_110 : decode bM_doorsOf 110 = .ok (.aload_n 0, 1) := by decide +kernel
theorem dM_doorsOf_111 : decode bM_doorsOf 111 = .ok (.getfield 7, 3) := by decide +kernel
theorem dM_doorsOf_114 : decode bM_doorsOf 114 = .ok (.bipush 7, 2) := by decide +kernel
theorem dM_doorsOf_116 : decode bM_doorsOf 116 = .ok (.iload 4, 2) := by decide +kernel
theorem dM_doorsOf_118 : decode bM_doorsOf 118 = .ok (.imul, 1) := by decide +kernel
theorem dM_doorsOf_119 : decode bM_doorsOf 119 = .ok (.iconst 2, 1) := by decide +kernel
theorem dM_doorsOf_120 : decode bM_doorsOf 120 = .ok (.iadd, 1) := by decide +kernel
theorem dM_doorsOf_121 : decode bM_doorsOf 121 = .ok (.iaload, 1) := by decide +kernel
theorem dM_doorsOf_122 : decode bM_doorsOf 122 = .ok (.isub, 1) := by decide +kernel
theorem dM_doorsOf_123 : decode bM_doorsOf 123 = .ok (.iastore, 1) := by decide +kernel
theorem dM_doorsOf_124 : decode bM_doorsOf 124 = .ok (.iinc 4 1, 3) := by decide +kernel
theorem dM_doorsOf_127 : decode bM_doorsOf 127 = .ok (.goto (-38), 3) := by decide +kernel
theorem dM_doorsOf_130 : decode bM_doorsOf 130 = .ok (.aload_n 0, 1) := by decide +kernel
theorem dM_doorsOf_131 : decode bM_doorsOf 131 = .ok (.invokevirtual 209, 3) := by decide +kernel
theorem dM_doorsOf_134 : decode bM_doorsOf 134 = .ok (.istore 4, 2) := by decide +kernel
theorem dM_doorsOf_136 : decode bM_doorsOf 136 = .ok (.iload_n 3, 1) := by decide +kernel
theorem dM_doorsOf_137 : decode bM_doorsOf 137 = .ok (.iload 4, 2) := by decide +kernel
theorem dM_doorsOf_139 : decode bM_doorsOf 139 = .ok (.if_icmp .le 7, 3) := by decide +kernel
theorem dM_doorsOf_142 : decode bM_doorsOf 142 = .ok (.iload_n 3, 1) := by decide +kernel
theorem dM_doorsOf_143 : decode bM_doorsOf 143 = .ok (.goto 5, 3) := by decide +kernel
theorem dM_doorsOf_146 : decode bM_doorsOf 146 = .ok (.iload 4, 2) := by decide +kernel
theorem dM_doorsOf_148 : decode bM_doorsOf 148 = .ok (.ireturn, 1) := by decide +kernel
theorem dM_doors_0 : decode bM_doors 0 = .ok (.aload_n 0, 1) := by decide +kernel
theorem dM_doors_1 : decode bM_doors 1 = .ok (.iload_n 1, 1) := by decide +kernel
theorem dM_doors_2 : decode bM_doors 2 = .ok (.invokevirtual 169, 3) := by decide +kernel
theorem dM_doors_5 : decode bM_doors 5 = .ok (.ifCond .ne 6, 3) := by decide +kernel
theorem dM_doors_8 : decode bM_doors 8 = .ok (.bipush (-101), 2) := by decide +kernel
theorem dM_doors_10 : decode bM_doors 10 = .ok (.ireturn, 1) := by decide +kernel
theorem dM_doors_11 : decode bM_doors 11 = .ok (.aload_n 0, 1) := by decide +kernel
theorem dM_doors_12 : decode bM_doors 12 = .ok (.invokevirtual 95, 3) := by decide +kernel
theorem dM_doors_15 : decode bM_doors 15 = .ok (.ifCond .eq 8, 3) := by decide +kernel
theorem dM_doors_18 : decode bM_doors 18 = .ok (.bipush (-103), 2) := by decide +kernel
theorem dM_doors_20 : decode bM_doors 20 = .ok (.goto 8, 3) := by decide +kernel
theorem dM_doors_23 : decode bM_doors 23 = .ok (.aload_n 0, 1) := by decide +kernel
theorem dM_doors_24 : decode bM_doors 24 = .ok (.iload_n 1, 1) := by decide +kernel
theorem dM_doors_25 : decode bM_doors 25 = .ok (.invokevirtual 240, 3) := by decide +kernel
theorem dM_doors_28 : decode bM_doors 28 = .ok (.ireturn, 1) := by decide +kernel
theorem dM_draw_0 : decode bM_draw 0 = .ok (.aload_n 0, 1) := by decide +kernel
theorem dM_draw_1 : decode bM_draw 1 = .ok (.ldc2_w 243, 3) := by decide +kernel
theorem dM_draw_4 : decode bM_draw 4 = .ok (.aload_n 0, 1) := by decide +kernel
theorem dM_draw_5 : decode bM_draw 5 = .ok (.getfield 245, 3) := by decide +kernel
theorem dM_draw_8 : decode bM_draw 8 = .ok (.i2l, 1) := by decide +kernel
theorem dM_draw_9 : decode bM_draw 9 = .ok (.lmul, 1) := by decide +kernel
theorem dM_draw_10 : decode bM_draw 10 = .ok (.ldc2_w 248, 3) := by decide +kernel
theorem dM_draw_13 : decode bM_draw 13 = .ok (.ladd, 1) := by decide +kernel
theorem dM_draw_14 : decode bM_draw 14 = .ok (.ldc2_w 250, 3) := by decide +kernel
theorem dM_draw_17 : decode bM_draw 17 = .ok (.land, 1) := by decide +kernel
theorem dM_draw_18 : decode bM_draw 18 = .ok (.l2i, 1) := by decide +kernel
theorem dM_draw_19 : decode bM_draw 19 = .ok (.putfield 245, 3) := by decide +kernel
theorem dM_draw_22 : decode bM_draw 22 = .ok (.aload_n 0, 1) := by decide +kernel
theorem dM_draw_23 : decode bM_draw 23 = .ok (.getfield 245, 3) := by decide +kernel
theorem dM_draw_26 : decode bM_draw 26 = .ok (.ldc 252, 2) := by decide +kernel
theorem dM_draw_28 : decode bM_draw 28 = .ok (.idiv, 1) := by decide +kernel
theorem dM_draw_29 : decode bM_draw 29 = .ok (.iload_n 1, 1) := by decide +kernel
theorem dM_draw_30 : decode bM_draw 30 = .ok (.irem, 1) := by decide +kernel
theorem dM_draw_31 : decode bM_draw 31 = .ok (.ireturn, 1) := by decide +kernel
theorem dM_mixedOf_0 : decode bM_mixedOf 0 = .ok (.aload_n 0, 1) := by decide +kernel
theorem dM_mixedOf_1 : decode bM_mixedOf 1 = .ok (.iload_n 2, 1) := by decide +kernel
theorem dM_mixedOf_2 : decode bM_mixedOf 2 = .ok (.putfield 245, 3) := by decide +kernel
theorem dM_mixedOf_5 : decode bM_mixedOf 5 = .ok (.aload_n 0, 1) := by decide +kernel
theorem dM_mixedOf_6 : decode bM_mixedOf 6 = .ok (.iconst 3, 1) := by decide +kernel
theorem dM_mixedOf_7 : decode bM_mixedOf 7 = .ok (.invokevirtual 174, 3) := by decide +kernel
theorem dM_mixedOf_10 : decode bM_mixedOf 10 = .ok (.ldc 221, 2) := by decide +kernel
theorem dM_mixedOf_12 : decode bM_mixedOf 12 = .ok (.istore 4, 2) := by decide +kernel
theorem dM_mixedOf_14 : decode bM_mixedOf 14 = .ok (.iconst 0, 1) := by decide +kernel
theorem dM_mixedOf_15 : decode bM_mixedOf 15 = .ok (.istore 5, 2) := by decide +kernel
theorem dM_mixedOf_17 : decode bM_mixedOf 17 = .ok (.iconst 0, 1) := by decide +kernel
theorem dM_mixedOf_18 : decode bM_mixedOf 18 = .ok (.istore 6, 2) := by decide +kernel
theorem dM_mixedOf_20 : decode bM_mixedOf 20 = .ok (.iload 6, 2) := by decide +kernel
theorem dM_mixedOf_22 : decode bM_mixedOf 22 = .ok (.iload_n 1, 1) := by decide +kernel
theorem dM_mixedOf_23 : decode bM_mixedOf 23 = .ok (.if_icmp .ge 114, 3) := by decide +kernel
theorem dM_mixedOf_26 : decode bM_mixedOf 26 = .ok (.aload_n 0, 1) := by decide +kernel
theorem dM_mixedOf_27 : decode bM_mixedOf 27 = .ok (.aload_n 0, 1) := by decide +kernel
theorem dM_mixedOf_28 : decode bM_mixedOf 28 = .ok (.getfield 89, 3) := by decide +kernel
theorem dM_mixedOf_31 : decode bM_mixedOf 31 = .ok (.putfield 156, 3) := by decide +kernel
theorem dM_mixedOf_34 : decode bM_mixedOf 34 = .ok (.iconst 0, 1) := by decide +kernel
theorem dM_mixedOf_35 : decode bM_mixedOf 35 = .ok (.istore 7, 2) := by decide +kernel
theorem dM_mixedOf_37 : decode bM_mixedOf 37 = .ok (.iload 7, 2) := by decide +kernel
theorem dM_mixedOf_39 : decode bM_mixedOf 39 = .ok (.aload_n 0, 1) := by decide +kernel
theorem dM_mixedOf_40 : decode bM_mixedOf 40 = .ok (.getfield 89, 3) := by decide +kernel
theorem dM_mixedOf_43 : decode bM_mixedOf 43 = .ok (.if_icmp .ge 18, 3) := by decide +kernel
theorem dM_mixedOf_46 : decode bM_mixedOf 46 = .ok (.aload_n 0, 1) := by decide +kernel
theorem dM_mixedOf_47 : decode bM_mixedOf 47 = .ok (.getfield 28, 3) := by decide +kernel
theorem dM_mixedOf_50 : decode bM_mixedOf 50 = .ok (.iload 7, 2) := by decide +kernel
theorem dM_mixedOf_52 : decode bM_mixedOf 52 = .ok (.iload 7, 2) := by decide +kernel
theorem dM_mixedOf_54 : decode bM_mixedOf 54 = .ok (.iastore, 1) := by decide +kernel
theorem dM_mixedOf_55 : decode bM_mixedOf 55 = .ok (.iinc 7 1, 3) := by decide +kernel
theorem dM_mixedOf_58 : decode bM_mixedOf 58 = .ok (.goto (-21), 3) := by decide +kernel
theorem dM_mixedOf_61 : decode bM_mixedOf 61 = .ok (.aload_n 0, 1) := by decide +kernel
theorem dM_mixedOf_62 : decode bM_mixedOf 62 = .ok (.getfield 89, 3) := by decide +kernel
theorem dM_mixedOf_65 : decode bM_mixedOf 65 = .ok (.istore 7, 2) := by decide +kernel
theorem dM_mixedOf_67 : decode bM_mixedOf 67 = .ok (.iload 7, 2) := by decide +kernel
theorem dM_mixedOf_69 : decode bM_mixedOf 69 = .ok (.iconst 2, 1) := by decide +kernel
theorem dM_mixedOf_70 : decode bM_mixedOf 70 = .ok (.if_icmp .lt 23, 3) := by decide +kernel
theorem dM_mixedOf_73 : decode bM_mixedOf 73 = .ok (.aload_n 0, 1) := by decide +kernel
theorem dM_mixedOf_74 : decode bM_mixedOf 74 = .ok (.iload 7, 2) := by decide +kernel
theorem dM_mixedOf_76 : decode bM_mixedOf 76 = .ok (.iconst 1, 1) := by decide +kernel
theorem dM_mixedOf_77 : decode bM_mixedOf 77 = .ok (.isub, 1) := by decide +kernel
theorem dM_mixedOf_78 : decode bM_mixedOf 78 = .ok (.aload_n 0, 1) := by decide +kernel
theorem dM_mixedOf_79 : decode bM_mixedOf 79 = .ok (.iload 7, 2) := by decide +kernel
theorem dM_mixedOf_81 : decode bM_mixedOf 81 = .ok (.invokevirtual 253, 3) := by decide +kernel
theorem dM_mixedOf_84 : decode bM_mixedOf 84 = .ok (.invokevirtual 234, 3) := by decide +kernel
theorem dM_mixedOf_87 : decode bM_mixedOf 87 = .ok (.iinc 7 (-1), 3) := by decide +kernel
theorem dM_mixedOf_90 : decode bM_mixedOf 90 = .ok (.goto (-23), 3) := by decide +kernel
theorem dM_mixedOf_93 : decode bM_mixedOf 93 = .ok (.aload_n 0, 1) := by decide +kernel
theorem dM_mixedOf_94 : decode bM_mixedOf 94 = .ok (.invokevirtual 209, 3) := by decide +kernel
theorem dM_mixedOf_97 : decode bM_mixedOf 97 = .ok (.istore 7, 2) := by decide +kernel
theorem dM_mixedOf_99 : decode bM_mixedOf 99 = .ok (.iload 7, 2) := by decide +kernel
theorem dM_mixedOf_101 : decode bM_mixedOf 101 = .ok (.iload 4, 2) := by decide +kernel
theorem dM_mixedOf_103 : decode bM_mixedOf 103 = .ok (.if_icmp .ge 8, 3) := by decide +kernel
theorem dM_mixedOf_106 : decode bM_mixedOf 106 = .ok (.iload 7, 2) := by decide +kernel
theorem dM_mixedOf_108 : decode bM_mixedOf 108 = .ok (.goto 5, 3) := by decide +kernel
theorem dM_mixedOf_111 : decode bM_mixedOf 111 = .ok (.iload 4, 2) := by decide +kernel
theorem dM_mixedOf_113 : decode bM_mixedOf 113 = .ok (.istore 4, 2) := by decide +kernel
theorem dM_mixedOf_115 : decode bM_mixedOf 115 = .ok (.iload 7, 2) := by decide +kernel
theorem dM_mixedOf_117 : decode bM_mixedOf 117 = .ok (.iload 5, 2) := by decide +kernel
theorem dM_mixedOf_119 : decode bM_mixedOf 119 = .ok (.if_icmp .le 8, 3) := by decide +kernel
theorem dM_mixedOf_122 : decode bM_mixedOf 122 = .ok (.iload 7, 2) := by decide +kernel
theorem dM_mixedOf_124 : decode bM_mixedOf 124 = .ok (.goto 5, 3) := by decide +kernel
theorem dM_mixedOf_127 : decode bM_mixedOf 127 = .ok (.iload 5, 2) := by decide +kernel
theorem dM_mixedOf_129 : decode bM_mixedOf 129 = .ok (.istore 5, 2) := by decide +kernel
theorem dM_mixedOf_131 : decode bM_mixedOf 131 = .ok (.iinc 6 1, 3) := by decide +kernel
theorem dM_mixedOf_134 : decode bM_mixedOf 134 = .ok (.goto (-114), 3) := by decide +kernel
theorem dM_mixedOf_137 : decode bM_mixedOf 137 = .ok (.iload_n 3, 1) := by decide +kernel
theorem dM_mixedOf_138 : decode bM_mixedOf 138 = .ok (.ifCond .ne 8, 3) := by decide +kernel
theorem dM_mixedOf_141 : decode bM_mixedOf 141 = .ok (.iload 4, 2) := by decide +kernel
theorem dM_mixedOf_143 : decode bM_mixedOf 143 = .ok (.goto 17, 3) := by decide +kernel
theorem dM_mixedOf_146 : decode bM_mixedOf 146 = .ok (.iload_n 3, 1) := by decide +kernel
theorem dM_mixedOf_147 : decode bM_mixedOf 147 = .ok (.iconst 1, 1) := by decide +kernel
theorem dM_mixedOf_148 : decode bM_mixedOf 148 = .ok (.if_icmp .ne 8, 3) := by decide +kernel
theorem dM_mixedOf_151 : decode bM_mixedOf 151 = .ok (.iload 5, 2) := by decide +kernel
theorem dM_mixedOf_153 : decode bM_mixedOf 153 = .ok (.goto 7, 3) := by decide +kernel
theorem dM_mixedOf_156 : decode bM_mixedOf 156 = .ok (.aload_n 0, 1) := by decide +kernel
theorem dM_mixedOf_157 : decode bM_mixedOf 157 = .ok (.getfield 245, 3) := by decide +kernel
theorem dM_mixedOf_160 : decode bM_mixedOf 160 = .ok (.ireturn, 1) := by decide +kernel
theorem dM_mixed_0 : decode bM_mixed 0 = .ok (.aload_n 0, 1) := by decide +kernel
theorem dM_mixed_1 : decode bM_mixed 1 = .ok (.invokevirtual 95, 3) := by decide +kernel
theorem dM_mixed_4 : decode bM_mixed 4 = .ok (.ifCond .eq 6, 3) := by decide +kernel
theorem dM_mixed_7 : decode bM_mixed 7 = .ok (.bipush (-103), 2) := by decide +kernel
theorem dM_mixed_9 : decode bM_mixed 9 = .ok (.ireturn, 1) := by decide +kernel
theorem dM_mixed_10 : decode bM_mixed 10 = .ok (.iload_n 1, 1) := by decide +kernel
theorem dM_mixed_11 : decode bM_mixed 11 = .ok (.i2l, 1) := by decide +kernel
theorem dM_mixed_12 : decode bM_mixed 12 = .ok (.lconst 1, 1) := by decide +kernel
theorem dM_mixed_13 : decode bM_mixed 13 = .ok (.ldc2_w 256, 3) := by decide +kernel
theorem dM_mixed_16 : decode bM_mixed 16 = .ok (.invokestatic 72, 3) := by decide +kernel
theorem dM_mixed_19 : decode bM_mixed 19 = .ok (.ifCond .eq 29, 3) := by decide +kernel
theorem dM_mixed_22 : decode bM_mixed 22 = .ok (.iload_n 2, 1) := by decide +kernel
theorem dM_mixed_23 : decode bM_mixed 23 = .ok (.ifCond .lt 25, 3) := by decide +kernel
theorem dM_mixed_26 : decode bM_mixed 26 = .ok (.iload_n 3, 1) := by decide +kernel
theorem dM_mixed_27 : decode bM_mixed 27 = .ok (.i2l, 1) := by decide +kernel
theorem dM_mixed_28 : decode bM_mixed 28 = .ok (.lconst 0, 1) := by decide +kernel
theorem dM_mixed_29 : decode bM_mixed 29 = .ok (.ldc2_w 68, 3) := by decide +kernel
theorem dM_mixed_32 : decode bM_mixed 32 = .ok (.invokestatic 72, 3) := by decide +kernel
theorem dM_mixed_35 : decode bM_mixed 35 = .ok (.ifCond .eq 13, 3) := by decide +kernel
theorem dM_mixed_38 : decode bM_mixed 38 = .ok (.aload_n 0, 1) := by decide +kernel
theorem dM_mixed_39 : decode bM_mixed 39 = .ok (.iload_n 1, 1) := by decide +kernel
theorem dM_mixed_40 : decode bM_mixed 40 = .ok (.iload_n 2, 1) := by decide +kernel
theorem dM_mixed_41 : decode bM_mixed 41 = .ok (.iload_n 3, 1) := by decide +kernel
theorem dM_mixed_42 : decode bM_mixed 42 = .ok (.invokevirtual 258, 3) := by decide +kernel
theorem dM_mixed_45 : decode bM_mixed 45 = .ok (.goto 5, 3) := by decide +kernel
theorem dM_mixed_48 : decode bM_mixed 48 = .ok (.bipush (-102), 2) := by decide +kernel
theorem dM_mixed_50 : decode bM_mixed 50 = .ok (.ireturn, 1) := by decide +kernel
theorem dM_mayGo_0 : decode bM_mayGo 0 = .ok (.aload_n 0, 1) := by decide +kernel
theorem dM_mayGo_1 : decode bM_mayGo 1 = .ok (.getfield 58, 3) := by decide +kernel
theorem dM_mayGo_4 : decode bM_mayGo 4 = .ok (.iload_n 1, 1) := by decide +kernel
theorem dM_mayGo_5 : decode bM_mayGo 5 = .ok (.iaload, 1) := by decide +kernel
theorem dM_mayGo_6 : decode bM_mayGo 6 = .ok (.iconst 1, 1) := by decide +kernel
theorem dM_mayGo_7 : decode bM_mayGo 7 = .ok (.if_icmp .ne 39, 3) := by decide +kernel
theorem dM_mayGo_10 : decode bM_mayGo 10 = .ok (.iload_n 2, 1) := by decide +kernel
theorem dM_mayGo_11 : decode bM_mayGo 11 = .ok (.ifCond .eq 31, 3) := by decide +kernel
theorem dM_mayGo_14 : decode bM_mayGo 14 = .ok (.iload_n 2, 1) := by decide +kernel
theorem dM_mayGo_15 : decode bM_mayGo 15 = .ok (.iconst 1, 1) := by decide +kernel
theorem dM_mayGo_16 : decode bM_mayGo 16 = .ok (.if_icmp .ne 11, 3) := by decide +kernel
theorem dM_mayGo_19 : decode bM_mayGo 19 = .ok (.aload_n 0, 1) := by decide +kernel
theorem dM_mayGo_20 : decode bM_mayGo 20 = .ok (.iload_n 1, 1) := by decide +kernel
theorem dM_mayGo_21 : decode bM_mayGo 21 = .ok (.invokevirtual 142, 3) := by decide +kernel
theorem dM_mayGo_24 : decode bM_mayGo 24 = .ok (.goto 14, 3) := by decide +kernel
theorem dM_mayGo_27 : decode bM_mayGo 27 = .ok (.aload_n 0, 1) := by decide +kernel
theorem dM_mayGo_28 : decode bM_mayGo 28 = .ok (.getfield 7, 3) := by decide +kernel
theorem dM_mayGo_31 : decode bM_mayGo 31 = .ok (.bipush 7, 2) := by decide +kernel
theorem dM_mayGo_33 : decode bM_mayGo 33 = .ok (.iload_n 1, 1) := by decide +kernel
theorem dM_mayGo_34 : decode bM_mayGo 34 = .ok (.imul, 1) := by decide +kernel
theorem dM_mayGo_35 : decode bM_mayGo 35 = .ok (.iconst 2, 1) := by decide +kernel
theorem dM_mayGo_36 : decode bM_mayGo 36 = .ok (.iadd, 1) := by decide +kernel
theorem dM_mayGo_37 : decode bM_mayGo 37 = .ok (.iaload, 1) := by decide +kernel
theorem dM_mayGo_38 : decode bM_mayGo 38 = .ok (.iload_n 3, 1) := by decide +kernel
theorem dM_mayGo_39 : decode bM_mayGo 39 = .ok (.if_icmp .ne 7, 3) := by decide +kernel
theorem dM_mayGo_42 : decode bM_mayGo 42 = .ok (.iconst 1, 1) := by decide +kernel
theorem dM_mayGo_43 : decode bM_mayGo 43 = .ok (.goto 4, 3) := by decide +kernel
theorem dM_mayGo_46 : decode bM_mayGo 46 = .ok (.iconst 0, 1) := by decide +kernel
theorem dM_mayGo_47 : decode bM_mayGo 47 = .ok (.ireturn, 1) := by decide +kernel
theorem dM_lowestOf_0 : decode bM_lowestOf 0 = .ok (.ldc 221, 2) := by decide +kernel
theorem dM_lowestOf_2 : decode bM_lowestOf 2 = .ok (.istore_n 2, 1) := by decide +kernel
theorem dM_lowestOf_3 : decode bM_lowestOf 3 = .ok (.iconst 0, 1) := by decide +kernel
theorem dM_lowestOf_4 : decode bM_lowestOf 4 = .ok (.istore_n 3, 1) := by decide +kernel
theorem dM_lowestOf_5 : decode bM_lowestOf 5 = .ok (.iload_n 3, 1) := by decide +kernel
theorem dM_lowestOf_6 : decode bM_lowestOf 6 = .ok (.aload_n 0, 1) := by decide +kernel
theorem dM_lowestOf_7 : decode bM_lowestOf 7 = .ok (.getfield 89, 3) := by decide +kernel
theorem dM_lowestOf_10 : decode bM_lowestOf 10 = .ok (.if_icmp .ge 58, 3) := by decide +kernel
theorem dM_lowestOf_13 : decode bM_lowestOf 13 = .ok (.iload_n 1, 1) := by decide +kernel
theorem dM_lowestOf_14 : decode bM_lowestOf 14 = .ok (.iconst 1, 1) := by decide +kernel
theorem dM_lowestOf_15 : decode bM_lowestOf 15 = .ok (.if_icmp .ne 11, 3) := by decide +kernel
theorem dM_lowestOf_18 : decode bM_lowestOf 18 = .ok (.aload_n 0, 1) := by decide +kernel
theorem dM_lowestOf_19 : decode bM_lowestOf 19 = .ok (.iload_n 3, 1) := by decide +kernel
theorem dM_lowestOf_20 : decode bM_lowestOf 20 = .ok (.invokevirtual 142, 3) := by decide +kernel
theorem dM_lowestOf_23 : decode bM_lowestOf 23 = .ok (.goto 14, 3) := by decide +kernel
theorem dM_lowestOf_26 : decode bM_lowestOf 26 = .ok (.aload_n 0, 1) := by decide +kernel
theorem dM_lowestOf_27 : decode bM_lowestOf 27 = .ok (.getfield 7, 3) := by decide +kernel
theorem dM_lowestOf_30 : decode bM_lowestOf 30 = .ok (.bipush 7, 2) := by decide +kernel
theorem dM_lowestOf_32 : decode bM_lowestOf 32 = .ok (.iload_n 3, 1) := by decide +kernel
theorem dM_lowestOf_33 : decode bM_lowestOf 33 = .ok (.imul, 1) := by decide +kernel
theorem dM_lowestOf_34 : decode bM_lowestOf 34 = .ok (.iconst 2, 1) := by decide +kernel
theorem dM_lowestOf_35 : decode bM_lowestOf 35 = .ok (.iadd, 1) := by decide +kernel
theorem dM_lowestOf_36 : decode bM_lowestOf 36 = .ok (.iaload, 1) := by decide +kernel
theorem dM_lowestOf_37 : decode bM_lowestOf 37 = .ok (.istore 4, 2) := by decide +kernel
theorem dM_lowestOf_39 : decode bM_lowestOf 39 = .ok (.aload_n 0, 1) := by decide +kernel
theorem dM_lowestOf_40 : decode bM_lowestOf 40 = .ok (.getfield 58, 3) := by decide +kernel
theorem dM_lowestOf_43 : decode bM_lowestOf 43 = .ok (.iload_n 3, 1) := by decide +kernel
theorem dM_lowestOf_44 : decode bM_lowestOf 44 = .ok (.iaload, 1) := by decide +kernel
theorem dM_lowestOf_45 : decode bM_lowestOf 45 = .ok (.iconst 1, 1) := by decide +kernel
theorem dM_lowestOf_46 : decode bM_lowestOf 46 = .ok (.if_icmp .ne 14, 3) := by decide +kernel
theorem dM_lowestOf_49 : decode bM_lowestOf 49 = .ok (.iload 4, 2) := by decide +kernel
theorem dM_lowestOf_51 : decode bM_lowestOf 51 = .ok (.iload_n 2, 1) := by decide +kernel
theorem dM_lowestOf_52 : decode bM_lowestOf 52 = .ok (.if_icmp .ge 8, 3) := by decide +kernel
theorem dM_lowestOf_55 : decode bM_lowestOf 55 = .ok (.iload 4, 2) := by decide +kernel
theorem dM_lowestOf_57 : decode bM_lowestOf 57 = .ok (.goto 4, 3) := by decide +kernel
theorem dM_lowestOf_60 : decode bM_lowestOf 60 = .ok (.iload_n 2, 1) := by decide +kernel
theorem dM_lowestOf_61 : decode bM_lowestOf 61 = .ok (.istore_n 2, 1) := by decide +kernel
theorem dM_lowestOf_62 : decode bM_lowestOf 62 = .ok (.iinc 3 1, 3) := by decide +kernel
theorem dM_lowestOf_65 : decode bM_lowestOf 65 = .ok (.goto (-60), 3) := by decide +kernel
theorem dM_lowestOf_68 : decode bM_lowestOf 68 = .ok (.iload_n 2, 1) := by decide +kernel
theorem dM_lowestOf_69 : decode bM_lowestOf 69 = .ok (.ireturn, 1) := by decide +kernel
theorem dM_getUp_0 : decode bM_getUp 0 = .ok (.aload_n 0, 1) := by decide +kernel
theorem dM_getUp_1 : decode bM_getUp 1 = .ok (.iload_n 1, 1) := by decide +kernel
theorem dM_getUp_2 : decode bM_getUp 2 = .ok (.invokevirtual 261, 3) := by decide +kernel
theorem dM_getUp_5 : decode bM_getUp 5 = .ok (.istore_n 2, 1) := by decide +kernel
theorem dM_getUp_6 : decode bM_getUp 6 = .ok (.iconst 0, 1) := by decide +kernel
theorem dM_getUp_7 : decode bM_getUp 7 = .ok (.istore_n 3, 1) := by decide +kernel
theorem dM_getUp_8 : decode bM_getUp 8 = .ok (.iload_n 3, 1) := by decide +kernel
theorem dM_getUp_9 : decode bM_getUp 9 = .ok (.aload_n 0, 1) := by decide +kernel
theorem dM_getUp_10 : decode bM_getUp 10 = .ok (.getfield 80, 3) := by decide +kernel
theorem dM_getUp_13 : decode bM_getUp 13 = .ok (.if_icmp .ge 182, 3) := by decide +kernel
theorem dM_getUp_16 : decode bM_getUp 16 = .ok (.aload_n 0, 1) := by decide +kernel
theorem dM_getUp_17 : decode bM_getUp 17 = .ok (.getfield 31, 3) := by decide +kernel
theorem dM_getUp_20 : decode bM_getUp 20 = .ok (.iload_n 3, 1) := by decide +kernel
theorem dM_getUp_21 : decode bM_getUp 21 = .ok (.iaload, 1) := by decide +kernel
theorem dM_getUp_22 : decode bM_getUp 22 = .ok (.iconst (-1), 1) := by decide +kernel
theorem dM_getUp_23 : decode bM_getUp 23 = .ok (.if_icmp .ne 166, 3) := by decide +kernel
theorem dM_getUp_26 : decode bM_getUp 26 = .ok (.iconst (-1), 1) := by decide +kernel
theorem dM_getUp_27 : decode bM_getUp 27 = .ok (.istore 4, 2) := by decide +kernel
theorem dM_getUp_29 : decode bM_getUp 29 = .ok (.iconst 0, 1) := by decide +kernel
theorem dM_getUp_30 : decode bM_getUp 30 = .ok (.istore 5, 2) := by decide +kernel
theorem dM_getUp_32 : decode bM_getUp 32 = .ok (.iload 5, 2) := by decide +kernel
theorem dM_getUp_34 : decode bM_getUp 34 = .ok (.aload_n 0, 1) := by decide +kernel
theorem dM_getUp_35 : decode bM_getUp 35 = .ok (.getfield 89, 3) := by decide +kernel
theorem dM_getUp_38 : decode bM_getUp 38 = .ok (.if_icmp .ge 108, 3) := by decide +kernel
theorem dM_getUp_41 : decode bM_getUp 41 = .ok (.aload_n 0, 1) := by decide +kernel
theorem dM_getUp_42 : decode bM_getUp 42 = .ok (.getfield 7, 3) := by decide +kernel
theorem dM_getUp_45 : decode bM_getUp 45 = .ok (.bipush 7, 2) := by decide +kernel
theorem dM_getUp_47 : decode bM_getUp 47 = .ok (.iload 5, 2) := by decide +kernel
theorem dM_getUp_49 : decode bM_getUp 49 = .ok (.imul, 1) := by decide +kernel
theorem dM_getUp_50 : decode bM_getUp 50 = .ok (.iconst 2, 1) := by decide +kernel
theorem dM_getUp_51 : decode bM_getUp 51 = .ok (.iadd, 1) := by decide +kernel
theorem dM_getUp_52 : decode bM_getUp 52 = .ok (.iaload, 1) := by decide +kernel
theorem dM_getUp_53 : decode bM_getUp 53 = .ok (.iload_n 3, 1) := by decide +kernel
theorem dM_getUp_54 : decode bM_getUp 54 = .ok (.if_icmp .ne 18, 3) := by decide +kernel
theorem dM_getUp_57 : decode bM_getUp 57 = .ok (.aload_n 0, 1) := by decide +kernel
theorem dM_getUp_58 : decode bM_getUp 58 = .ok (.iload 5, 2) := by decide +kernel
theorem dM_getUp_60 : decode bM_getUp 60 = .ok (.iload_n 1, 1) := by decide +kernel
theorem dM_getUp_61 : decode bM_getUp 61 = .ok (.iload_n 2, 1) := by decide +kernel
theorem dM_getUp_62 : decode bM_getUp 62 = .ok (.invokevirtual 264, 3) := by decide +kernel
theorem dM_getUp_65 : decode bM_getUp 65 = .ok (.ifCond .eq 7, 3) := by decide +kernel
theorem dM_getUp_68 : decode bM_getUp 68 = .ok (.iconst 1, 1) := by decide +kernel
theorem dM_getUp_69 : decode bM_getUp 69 = .ok (.goto 4, 3) := by decide +kernel
theorem dM_getUp_72 : decode bM_getUp 72 = .ok (.iconst 0, 1) := by decide +kernel
theorem dM_getUp_73 : decode bM_getUp 73 = .ok (.istore 6, 2) := by decide +kernel
theorem dM_getUp_75 : decode bM_getUp 75 = .ok (.iload 4, 2) := by decide +kernel
theorem dM_getUp_77 : decode bM_getUp 77 = .ok (.iconst (-1), 1) := by decide +kernel
theorem dM_getUp_78 : decode bM_getUp 78 = .ok (.if_icmp .eq 36, 3) := by decide +kernel
theorem dM_getUp_81 : decode bM_getUp 81 = .ok (.iconst 2, 1) := by decide +kernel
theorem dM_getUp_82 : decode bM_getUp 82 = .ok (.aload_n 0, 1) := by decide +kernel
theorem dM_getUp_83 : decode bM_getUp 83 = .ok (.iload 5, 2) := by decide +kernel
theorem dM_getUp_85 : decode bM_getUp 85 = .ok (.invokevirtual 142, 3) := by decide +kernel
theorem dM_getUp_88 : decode bM_getUp 88 = .ok (.imul, 1) := by decide +kernel
theorem dM_getUp_89 : decode bM_getUp 89 = .ok (.aload_n 0, 1) := by decide +kernel
theorem dM_getUp_90 : decode bM_getUp 90 = .ok (.iload 5, 2) := by decide +kernel
theorem dM_getUp_92 : decode bM_getUp 92 = .ok (.invokevirtual 146, 3) := by decide +kernel
theorem dM_getUp_95 : decode bM_getUp 95 = .ok (.iadd, 1) := by decide +kernel
theorem dM_getUp_96 : decode bM_getUp 96 = .ok (.iconst 2, 1) := by decide +kernel
theorem dM_getUp_97 : decode bM_getUp 97 = .ok (.aload_n 0, 1) := by decide +kernel
theorem dM_getUp_98 : decode bM_getUp 98 = .ok (.iload 4, 2) := by decide +kernel
theorem dM_getUp_100 : decode bM_getUp 100 = .ok (.invokevirtual 142, 3) := by decide +kernel
theorem dM_getUp_103 : decode bM_getUp 103 = .ok (.imul, 1) := by decide +kernel
theorem dM_getUp_104 : decode bM_getUp 104 = .ok (.aload_n 0, 1) := by decide +kernel
theorem dM_getUp_105 : decode bM_getUp 105 = .ok (.iload 4, 2) := by decide +kernel
theorem dM_getUp_107 : decode bM_getUp 107 = .ok (.invokevirtual 146, 3) := by decide +kernel
theorem dM_getUp_110 : decode bM_getUp 110 = .ok (.iadd, 1) := by decide +kernel
theorem dM_getUp_111 : decode bM_getUp 111 = .ok (.if_icmp .ge 7, 3) := by decide +kernel
theorem dM_getUp_114 : decode bM_getUp 114 = .ok (.iconst 1, 1) := by decide +kernel
theorem dM_getUp_115 : decode bM_getUp 115 = .ok (.goto 4, 3) := by decide +kernel
theorem dM_getUp_118 : decode bM_getUp 118 = .ok (.iconst 0, 1) := by decide +kernel
theorem dM_getUp_119 : decode bM_getUp 119 = .ok (.istore 7, 2) := by decide +kernel
theorem dM_getUp_121 : decode bM_getUp 121 = .ok (.iload 6, 2) := by decide +kernel
theorem dM_getUp_123 : decode bM_getUp 123 = .ok (.ifCond .eq 13, 3) := by decide +kernel
theorem dM_getUp_126 : decode bM_getUp 126 = .ok (.iload 7, 2) := by decide +kernel
theorem dM_getUp_128 : decode bM_getUp 128 = .ok (.ifCond .eq 8, 3) := by decide +kernel
theorem dM_getUp_131 : decode bM_getUp 131 = .ok (.iload 5, 2) := by decide +kernel
theorem dM_getUp_133 : decode bM_getUp 133 = .ok (.goto 5, 3) := by decide +kernel
theorem dM_getUp_136 : decode bM_getUp 136 = .ok (.iload 4, 2) := by decide +kernel
theorem dM_getUp_138 : decode bM_getUp 138 = .ok (.istore 4, 2) := by decide +kernel
theorem dM_getUp_140 : decode bM_getUp 140 = .ok (.iinc 5 1, 3) := by decide +kernel
theorem dM_getUp_143 : decode bM_getUp 143 = .ok (.goto (-111), 3) := by decide +kernel
theorem dM_getUp_146 : decode bM_getUp 146 = .ok (.iload 4, 2) := by decide +kernel
theorem dM_getUp_148 : decode bM_getUp 148 = .ok (.iconst (-1), 1) := by decide +kernel
theorem dM_getUp_149 : decode bM_getUp 149 = .ok (.if_icmp .eq 40, 3) := by decide +kernel
theorem dM_getUp_152 : decode bM_getUp 152 = .ok (.aload_n 0, 1) := by decide +kernel
theorem dM_getUp_153 : decode bM_getUp 153 = .ok (.getfield 58, 3) := by decide +kernel
theorem dM_getUp_156 : decode bM_getUp 156 = .ok (.iload 4, 2) := by decide +kernel
theorem dM_getUp_158 : decode bM_getUp 158 = .ok (.iconst 0, 1) := by decide +kernel
theorem dM_getUp_159 : decode bM_getUp 159 = .ok (.iastore, 1) := by decide +kernel
theorem dM_getUp_160 : decode bM_getUp 160 = .ok (.aload_n 0, 1) := by decide +kernel
theorem dM_getUp_161 : decode bM_getUp 161 = .ok (.getfield 31, 3) := by decide +kernel
theorem dM_getUp_164 : decode bM_getUp 164 = .ok (.iload_n 3, 1) := by decide +kernel
theorem dM_getUp_165 : decode bM_getUp 165 = .ok (.iload 4, 2) := by decide +kernel
theorem dM_getUp_167 : decode bM_getUp 167 = .ok (.iastore, 1) := by decide +kernel
theorem dM_getUp_168 : decode bM_getUp 168 = .ok (.aload_n 0, 1) := by decide +kernel
theorem dM_getUp_169 : decode bM_getUp 169 = .ok (.getfield 34, 3) := by decide +kernel
theorem dM_getUp_172 : decode bM_getUp 172 = .ok (.iload 4, 2) := by decide +kernel
theorem dM_getUp_174 : decode bM_getUp 174 = .ok (.iconst 2, 1) := by decide +kernel
theorem dM_getUp_175 : decode bM_getUp 175 = .ok (.aload_n 0, 1) := by decide +kernel
theorem dM_getUp_176 : decode bM_getUp 176 = .ok (.getfield 7, 3) := by decide +kernel
theorem dM_getUp_179 : decode bM_getUp 179 = .ok (.bipush 7, 2) := by decide +kernel
theorem dM_getUp_181 : decode bM_getUp 181 = .ok (.iload 4, 2) := by decide +kernel
theorem dM_getUp_183 : decode bM_getUp 183 = .ok (.imul, 1) := by decide +kernel
theorem dM_getUp_184 : decode bM_getUp 184 = .ok (.iconst 5, 1) := by decide +kernel
theorem dM_getUp_185 : decode bM_getUp 185 = .ok (.iadd, 1) := by decide +kernel
theorem dM_getUp_186 : decode bM_getUp 186 = .ok (.iaload, 1) := by decide +kernel
theorem dM_getUp_187 : decode bM_getUp 187 = .ok (.imul, 1) := by decide +kernel
theorem dM_getUp_188 : decode bM_getUp 188 = .ok (.iastore, 1) := by decide +kernel
theorem dM_getUp_189 : decode bM_getUp 189 = .ok (.iinc 3 1, 3) := by decide +kernel
theorem dM_getUp_192 : decode bM_getUp 192 = .ok (.goto (-184), 3) := by decide +kernel
theorem dM_getUp_195 : decode bM_getUp 195 = .ok (.return_, 1) := by decide +kernel
theorem dM_goOut_0 : decode bM_goOut 0 = .ok (.aload_n 0, 1) := by decide +kernel
theorem dM_goOut_1 : decode bM_goOut 1 = .ok (.getfield 89, 3) := by decide +kernel
theorem dM_goOut_4 : decode bM_goOut 4 = .ok (.istore_n 2, 1) := by decide +kernel
theorem dM_goOut_5 : decode bM_goOut 5 = .ok (.iconst 0, 1) := by decide +kernel
theorem dM_goOut_6 : decode bM_goOut 6 = .ok (.istore_n 3, 1) := by decide +kernel
theorem dM_goOut_7 : decode bM_goOut 7 = .ok (.iload_n 3, 1) := by decide +kernel
theorem dM_goOut_8 : decode bM_goOut 8 = .ok (.bipush 12, 2) := by decide +kernel
theorem dM_goOut_10 : decode bM_goOut 10 = .ok (.if_icmp .ge 37, 3) := by decide +kernel
theorem dM_goOut_13 : decode bM_goOut 13 = .ok (.aload_n 0, 1) := by decide +kernel
theorem dM_goOut_14 : decode bM_goOut 14 = .ok (.getfield 31, 3) := by decide +kernel
theorem dM_goOut_17 : decode bM_goOut 17 = .ok (.iload_n 3, 1) := by decide +kernel
theorem dM_goOut_18 : decode bM_goOut 18 = .ok (.iconst (-1), 1) := by decide +kernel
theorem dM_goOut_19 : decode bM_goOut 19 = .ok (.iastore, 1) := by decide +kernel
theorem dM_goOut_20 : decode bM_goOut 20 = .ok (.aload_n 0, 1) := by decide +kernel
theorem dM_goOut_21 : decode bM_goOut 21 = .ok (.getfield 34, 3) := by decide +kernel
theorem dM_goOut_24 : decode bM_goOut 24 = .ok (.iload_n 3, 1) := by decide +kernel
theorem dM_goOut_25 : decode bM_goOut 25 = .ok (.iconst 0, 1) := by decide +kernel
theorem dM_goOut_26 : decode bM_goOut 26 = .ok (.iastore, 1) := by decide +kernel
theorem dM_goOut_27 : decode bM_goOut 27 = .ok (.aload_n 0, 1) := by decide +kernel
theorem dM_goOut_28 : decode bM_goOut 28 = .ok (.getfield 58, 3) := by decide +kernel
theorem dM_goOut_31 : decode bM_goOut 31 = .ok (.iload_n 3, 1) := by decide +kernel
theorem dM_goOut_32 : decode bM_goOut 32 = .ok (.iconst 1, 1) := by decide +kernel
theorem dM_goOut_33 : decode bM_goOut 33 = .ok (.iastore, 1) := by decide +kernel
theorem dM_goOut_34 : decode bM_goOut 34 = .ok (.aload_n 0, 1) := by decide +kernel
theorem dM_goOut_35 : decode bM_goOut 35 = .ok (.getfield 55, 3) := by decide +kernel
theorem dM_goOut_38 : decode bM_goOut 38 = .ok (.iload_n 3, 1) := by decide +kernel
theorem dM_goOut_39 : decode bM_goOut 39 = .ok (.iconst 0, 1) := by decide +kernel
theorem dM_goOut_40 : decode bM_goOut 40 = .ok (.iastore, 1) := by decide +kernel
theorem dM_goOut_41 : decode bM_goOut 41 = .ok (.iinc 3 1, 3) := by decide +kernel
theorem dM_goOut_44 : decode bM_goOut 44 = .ok (.goto (-37), 3) := by decide +kernel
theorem dM_goOut_47 : decode bM_goOut 47 = .ok (.iconst 0, 1) := by decide +kernel
theorem dM_goOut_48 : decode bM_goOut 48 = .ok (.istore_n 3, 1) := by decide +kernel
theorem dM_goOut_49 : decode bM_goOut 49 = .ok (.iload_n 2, 1) := by decide +kernel
theorem dM_goOut_50 : decode bM_goOut 50 = .ok (.ifCond .le 141, 3) := by decide +kernel
theorem dM_goOut_53 : decode bM_goOut 53 = .ok (.iinc 3 1, 3) := by decide +kernel
theorem dM_goOut_56 : decode bM_goOut 56 = .ok (.iconst 0, 1) := by decide +kernel
theorem dM_goOut_57 : decode bM_goOut 57 = .ok (.istore 4, 2) := by decide +kernel
theorem dM_goOut_59 : decode bM_goOut 59 = .ok (.iload 4, 2) := by decide +kernel
theorem dM_goOut_61 : decode bM_goOut 61 = .ok (.aload_n 0, 1) := by decide +kernel
theorem dM_goOut_62 : decode bM_goOut 62 = .ok (.getfield 80, 3) := by decide +kernel
theorem dM_goOut_65 : decode bM_goOut 65 = .ok (.if_icmp .ge 118, 3) := by decide +kernel
theorem dM_goOut_68 : decode bM_goOut 68 = .ok (.aload_n 0, 1) := by decide +kernel
theorem dM_goOut_69 : decode bM_goOut 69 = .ok (.getfield 31, 3) := by decide +kernel
theorem dM_goOut_72 : decode bM_goOut 72 = .ok (.iload 4, 2) := by decide +kernel
theorem dM_goOut_74 : decode bM_goOut 74 = .ok (.iaload, 1) := by decide +kernel
theorem dM_goOut_75 : decode bM_goOut 75 = .ok (.istore 5, 2) := by decide +kernel
theorem dM_goOut_77 : decode bM_goOut 77 = .ok (.iload 5, 2) := by decide +kernel
theorem dM_goOut_79 : decode bM_goOut 79 = .ok (.iconst (-1), 1) := by decide +kernel
theorem dM_goOut_80 : decode bM_goOut 80 = .ok (.if_icmp .eq 27, 3) := by decide +kernel
theorem dM_goOut_83 : decode bM_goOut 83 = .ok (.aload_n 0, 1) := by decide +kernel
theorem dM_goOut_84 : decode bM_goOut 84 = .ok (.getfield 34, 3) := by decide +kernel
theorem dM_goOut_87 : decode bM_goOut 87 = .ok (.iload 5, 2) := by decide +kernel
theorem dM_goOut_89 : decode bM_goOut 89 = .ok (.iaload, 1) := by decide +kernel
theorem dM_goOut_90 : decode bM_goOut 90 = .ok (.ifCond .le 17, 3) := by decide +kernel
theorem dM_goOut_93 : decode bM_goOut 93 = .ok (.aload_n 0, 1) := by decide +kernel
theorem dM_goOut_94 : decode bM_goOut 94 = .ok (.getfield 34, 3) := by decide +kernel
theorem dM_goOut_97 : decode bM_goOut 97 = .ok (.iload 5, 2) := by decide +kernel
theorem dM_goOut_99 : decode bM_goOut 99 = .ok (.dup2, 1) := by decide +kernel
theorem dM_goOut_100 : decode bM_goOut 100 = .ok (.iaload, 1) := by decide +kernel
theorem dM_goOut_101 : decode bM_goOut 101 = .ok (.iconst 1, 1) := by decide +kernel
theorem dM_goOut_102 : decode bM_goOut 102 = .ok (.isub, 1) := by decide +kernel
theorem dM_goOut_103 : decode bM_goOut 103 = .ok (.iastore, 1) := by decide +kernel
theorem dM_goOut_104 : decode bM_goOut 104 = .ok (.goto 73, 3) := by decide +kernel
theorem dM_goOut_107 : decode bM_goOut 107 = .ok (.iload 5, 2) := by decide +kernel
theorem dM_goOut_109 : decode bM_goOut 109 = .ok (.iconst (-1), 1) := by decide +kernel
theorem dM_goOut_110 : decode bM_goOut 110 = .ok (.if_icmp .eq 29, 3) := by decide +kernel
theorem dM_goOut_113 : decode bM_goOut 113 = .ok (.iload 4, 2) := by decide +kernel
theorem dM_goOut_115 : decode bM_goOut 115 = .ok (.ifCond .ne 24, 3) := by decide +kernel
theorem dM_goOut_118 : decode bM_goOut 118 = .ok (.aload_n 0, 1) := by decide +kernel
theorem dM_goOut_119 : decode bM_goOut 119 = .ok (.getfield 31, 3) := by decide +kernel
theorem dM_goOut_122 : decode bM_goOut 122 = .ok (.iconst 0, 1) := by decide +kernel
theorem dM_goOut_123 : decode bM_goOut 123 = .ok (.iconst (-1), 1) := by decide +kernel
theorem dM_goOut_124 : decode bM_goOut 124 = .ok (.iastore, 1) := by decide +kernel
theorem dM_goOut_125 : decode bM_goOut 125 = .ok (.aload_n 0, 1) := by decide +kernel
theorem dM_goOut_126 : decode bM_goOut 126 = .ok (.getfield 55, 3) := by decide +kernel
theorem dM_goOut_129 : decode bM_goOut 129 = .ok (.iload 5, 2) := by decide +kernel
theorem dM_goOut_131 : decode bM_goOut 131 = .ok (.iload_n 3, 1) := by decide +kernel
theorem dM_goOut_132 : decode bM_goOut 132 = .ok (.iastore, 1) := by decide +kernel
theorem dM_goOut_133 : decode bM_goOut 133 = .ok (.iinc 2 (-1), 3) := by decide +kernel
theorem dM_goOut_136 : decode bM_goOut 136 = .ok (.goto 41, 3) := by decide +kernel
theorem dM_goOut_139 : decode bM_goOut 139 = .ok (.iload 5, 2) := by decide +kernel
theorem dM_goOut_141 : decode bM_goOut 141 = .ok (.iconst (-1), 1) := by decide +kernel
theorem dM_goOut_142 : decode bM_goOut 142 = .ok (.if_icmp .eq 35, 3) := by decide +kernel
theorem dM_goOut_145 : decode bM_goOut 145 = .ok (.aload_n 0, 1) := by decide +kernel
theorem dM_goOut_146 : decode bM_goOut 146 = .ok (.getfield 31, 3) := by decide +kernel
theorem dM_goOut_149 : decode bM_goOut 149 = .ok (.iload 4, 2) := by decide +kernel
theorem dM_goOut_151 : decode bM_goOut 151 = .ok (.iconst 1, 1) := by decide +kernel
theorem dM_goOut_152 : decode bM_goOut 152 = .ok (.isub, 1) := by decide +kernel
theorem dM_goOut_153 : decode bM_goOut 153 = .ok (.iaload, 1) := by decide +kernel
theorem dM_goOut_154 : decode bM_goOut 154 = .ok (.iconst (-1), 1) := by decide +kernel
theorem dM_goOut_155 : decode bM_goOut 155 = .ok (.if_icmp .ne 22, 3) := by decide +kernel
theorem dM_goOut_158 : decode bM_goOut 158 = .ok (.aload_n 0, 1) := by decide +kernel
theorem dM_goOut_159 : decode bM_goOut 159 = .ok (.getfield 31, 3) := by decide +kernel
theorem dM_goOut_162 : decode bM_goOut 162 = .ok (.iload 4, 2) := by decide +kernel
theorem dM_goOut_164 : decode bM_goOut 164 = .ok (.iconst 1, 1) := by decide +kernel
theorem dM_goOut_165 : decode bM_goOut 165 = .ok (.isub, 1) := by decide +kernel
theorem dM_goOut_166 : decode bM_goOut 166 = .ok (.iload 5, 2) := by decide +kernel
theorem dM_goOut_168 : decode bM_goOut 168 = .ok (.iastore, 1) := by decide +kernel
theorem dM_goOut_169 : decode bM_goOut 169 = .ok (.aload_n 0, 1) := by decide +kernel
theorem dM_goOut_170 : decode bM_goOut 170 = .ok (.getfield 31, 3) := by decide +kernel
theorem dM_goOut_173 : decode bM_goOut 173 = .ok (.iload 4, 2) := by decide +kernel
theorem dM_goOut_175 : decode bM_goOut 175 = .ok (.iconst (-1), 1) := by decide +kernel
theorem dM_goOut_176 : decode bM_goOut 176 = .ok (.iastore, 1) := by decide +kernel
theorem dM_goOut_177 : decode bM_goOut 177 = .ok (.iinc 4 1, 3) := by decide +kernel
theorem dM_goOut_180 : decode bM_goOut 180 = .ok (.goto (-121), 3) := by decide +kernel
theorem dM_goOut_183 : decode bM_goOut 183 = .ok (.aload_n 0, 1) := by decide +kernel
theorem dM_goOut_184 : decode bM_goOut 184 = .ok (.iload_n 1, 1) := by decide +kernel
theorem dM_goOut_185 : decode bM_goOut 185 = .ok (.invokevirtual 267, 3) := by decide +kernel
theorem dM_goOut_188 : decode bM_goOut 188 = .ok (.goto (-139), 3) := by decide +kernel
theorem dM_goOut_191 : decode bM_goOut 191 = .ok (.iload_n 3, 1) := by decide +kernel
theorem dM_goOut_192 : decode bM_goOut 192 = .ok (.ireturn, 1) := by decide +kernel
theorem dM_out_0 : decode bM_out 0 = .ok (.aload_n 0, 1) := by decide +kernel
theorem dM_out_1 : decode bM_out 1 = .ok (.invokevirtual 95, 3) := by decide +kernel
theorem dM_out_4 : decode bM_out 4 = .ok (.ifCond .eq 6, 3) := by decide +kernel
theorem dM_out_7 : decode bM_out 7 = .ok (.bipush (-103), 2) := by decide +kernel
theorem dM_out_9 : decode bM_out 9 = .ok (.ireturn, 1) := by decide +kernel
theorem dM_out_10 : decode bM_out 10 = .ok (.iload_n 1, 1) := by decide +kernel
theorem dM_out_11 : decode bM_out 11 = .ok (.i2l, 1) := by decide +kernel
theorem dM_out_12 : decode bM_out 12 = .ok (.lconst 0, 1) := by decide +kernel
theorem dM_out_13 : decode bM_out 13 = .ok (.ldc2_w 68, 3) := by decide +kernel
theorem dM_out_16 : decode bM_out 16 = .ok (.invokestatic 72, 3) := by decide +kernel
theorem dM_out_19 : decode bM_out 19 = .ok (.ifCond .eq 11, 3) := by decide +kernel
theorem dM_out_22 : decode bM_out 22 = .ok (.aload_n 0, 1) := by decide +kernel
theorem dM_out_23 : decode bM_out 23 = .ok (.iload_n 1, 1) := by decide +kernel
theorem dM_out_24 : decode bM_out 24 = .ok (.invokevirtual 270, 3) := by decide +kernel
theorem dM_out_27 : decode bM_out 27 = .ok (.goto 5, 3) := by decide +kernel
theorem dM_out_30 : decode bM_out 30 = .ok (.bipush (-102), 2) := by decide +kernel
theorem dM_out_32 : decode bM_out 32 = .ok (.ireturn, 1) := by decide +kernel
theorem dM_outOf_0 : decode bM_outOf 0 = .ok (.aload_n 0, 1) := by decide +kernel
theorem dM_outOf_1 : decode bM_outOf 1 = .ok (.iload_n 1, 1) := by decide +kernel
theorem dM_outOf_2 : decode bM_outOf 2 = .ok (.invokevirtual 99, 3) := by decide +kernel
theorem dM_outOf_5 : decode bM_outOf 5 = .ok (.ifCond .ne 6, 3) := by decide +kernel
theorem dM_outOf_8 : decode bM_outOf 8 = .ok (.bipush (-101), 2) := by decide +kernel
theorem dM_outOf_10 : decode bM_outOf 10 = .ok (.ireturn, 1) := by decide +kernel
theorem dM_outOf_11 : decode bM_outOf 11 = .ok (.iload_n 2, 1) := by decide +kernel
theorem dM_outOf_12 : decode bM_outOf 12 = .ok (.i2l, 1) := by decide +kernel
theorem dM_outOf_13 : decode bM_outOf 13 = .ok (.lconst 0, 1) := by decide +kernel
theorem dM_outOf_14 : decode bM_outOf 14 = .ok (.ldc2_w 68, 3) := by decide +kernel
theorem dM_outOf_17 : decode bM_outOf 17 = .ok (.invokestatic 72, 3) := by decide +kernel
theorem dM_outOf_20 : decode bM_outOf 20 = .ok (.ifCond .ne 6, 3) := by decide +kernel
theorem dM_outOf_23 : decode bM_outOf 23 = .ok (.bipush (-102), 2) := by decide +kernel
theorem dM_outOf_25 : decode bM_outOf 25 = .ok (.ireturn, 1) := by decide +kernel
theorem dM_outOf_26 : decode bM_outOf 26 = .ok (.aload_n 0, 1) := by decide +kernel
theorem dM_outOf_27 : decode bM_outOf 27 = .ok (.iload_n 2, 1) := by decide +kernel
theorem dM_outOf_28 : decode bM_outOf 28 = .ok (.invokevirtual 270, 3) := by decide +kernel
theorem dM_outOf_31 : decode bM_outOf 31 = .ok (.istore_n 3, 1) := by decide +kernel
theorem dM_outOf_32 : decode bM_outOf 32 = .ok (.aload_n 0, 1) := by decide +kernel
theorem dM_outOf_33 : decode bM_outOf 33 = .ok (.getfield 55, 3) := by decide +kernel
theorem dM_outOf_36 : decode bM_outOf 36 = .ok (.iload_n 1, 1) := by decide +kernel
theorem dM_outOf_37 : decode bM_outOf 37 = .ok (.iaload, 1) := by decide +kernel
theorem dM_outOf_38 : decode bM_outOf 38 = .ok (.ireturn, 1) := by decide +kernel
theorem dM_missed_0 : decode bM_missed 0 = .ok (.aload_n 0, 1) := by decide +kernel
theorem dM_missed_1 : decode bM_missed 1 = .ok (.invokevirtual 95, 3) := by decide +kernel
theorem dM_missed_4 : decode bM_missed 4 = .ok (.ifCond .eq 6, 3) := by decide +kernel
theorem dM_missed_7 : decode bM_missed 7 = .ok (.bipush (-103), 2) := by decide +kernel
theorem dM_missed_9 : decode bM_missed 9 = .ok (.ireturn, 1) := by decide +kernel
theorem dM_missed_10 : decode bM_missed 10 = .ok (.iload_n 1, 1) := by decide +kernel
theorem dM_missed_11 : decode bM_missed 11 = .ok (.i2l, 1) := by decide +kernel
theorem dM_missed_12 : decode bM_missed 12 = .ok (.lconst 0, 1) := by decide +kernel
theorem dM_missed_13 : decode bM_missed 13 = .ok (.ldc2_w 68, 3) := by decide +kernel
theorem dM_missed_16 : decode bM_missed 16 = .ok (.invokestatic 72, 3) := by decide +kernel
theorem dM_missed_19 : decode bM_missed 19 = .ok (.ifCond .ne 6, 3) := by decide +kernel
theorem dM_missed_22 : decode bM_missed 22 = .ok (.bipush (-102), 2) := by decide +kernel
theorem dM_missed_24 : decode bM_missed 24 = .ok (.ireturn, 1) := by decide +kernel
theorem dM_missed_25 : decode bM_missed 25 = .ok (.aload_n 0, 1) := by decide +kernel
theorem dM_missed_26 : decode bM_missed 26 = .ok (.iload_n 1, 1) := by decide +kernel
theorem dM_missed_27 : decode bM_missed 27 = .ok (.invokevirtual 270, 3) := by decide +kernel
theorem dM_missed_30 : decode bM_missed 30 = .ok (.istore_n 2, 1) := by decide +kernel
theorem dM_missed_31 : decode bM_missed 31 = .ok (.iconst 0, 1) := by decide +kernel
theorem dM_missed_32 : decode bM_missed 32 = .ok (.istore_n 3, 1) := by decide +kernel
theorem dM_missed_33 : decode bM_missed 33 = .ok (.iconst 0, 1) := by decide +kernel
theorem dM_missed_34 : decode bM_missed 34 = .ok (.istore 4, 2) := by decide +kernel
theorem dM_missed_36 : decode bM_missed 36 = .ok (.iload 4, 2) := by decide +kernel
theorem dM_missed_38 : decode bM_missed 38 = .ok (.aload_n 0, 1) := by decide +kernel
theorem dM_missed_39 : decode bM_missed 39 = .ok (.getfield 89, 3) := by decide +kernel
theorem dM_missed_42 : decode bM_missed 42 = .ok (.if_icmp .ge 43, 3) := by decide +kernel
theorem dM_missed_45 : decode bM_missed 45 = .ok (.iload_n 3, 1) := by decide +kernel
theorem dM_missed_46 : decode bM_missed 46 = .ok (.aload_n 0, 1) := by decide +kernel
theorem dM_missed_47 : decode bM_missed 47 = .ok (.getfield 55, 3) := by decide +kernel
theorem dM_missed_50 : decode bM_missed 50 = .ok (.iload 4, 2) := by decide +kernel
theorem dM_missed_52 : decode bM_missed 52 = .ok (.iaload, 1) := by decide +kernel
theorem dM_missed_53 : decode bM_missed 53 = .ok (.aload_n 0, 1) := by decide +kernel
theorem dM_missed_54 : decode bM_missed 54 = .ok (.getfield 7, 3) := by decide +kernel
theorem dM_missed_57 : decode bM_missed 57 = .ok (.bipush 7, 2) := by decide +kernel
theorem dM_missed_59 : decode bM_missed 59 = .ok (.iload 4, 2) := by decide +kernel
theorem dM_missed_61 : decode bM_missed 61 = .ok (.imul, 1) := by decide +kernel
theorem dM_missed_62 : decode bM_missed 62 = .ok (.bipush 6, 2) := by decide +kernel
theorem dM_missed_64 : decode bM_missed 64 = .ok (.iadd, 1) := by decide +kernel
theorem dM_missed_65 : decode bM_missed 65 = .ok (.iaload, 1) := by decide +kernel
theorem dM_missed_66 : decode bM_missed 66 = .ok (.if_icmp .le 10, 3) := by decide +kernel
theorem dM_missed_69 : decode bM_missed 69 = .ok (.iconst 1, 1) := by decide +kernel
theorem dM_missed_70 : decode bM_missed 70 = .ok (.iload 4, 2) := by decide +kernel
theorem dM_missed_72 : decode bM_missed 72 = .ok (.ishl, 1) := by decide +kernel
theorem dM_missed_73 : decode bM_missed 73 = .ok (.goto 4, 3) := by decide +kernel
theorem dM_missed_76 : decode bM_missed 76 = .ok (.iconst 0, 1) := by decide +kernel
theorem dM_missed_77 : decode bM_missed 77 = .ok (.ior, 1) := by decide +kernel
theorem dM_missed_78 : decode bM_missed 78 = .ok (.istore_n 3, 1) := by decide +kernel
theorem dM_missed_79 : decode bM_missed 79 = .ok (.iinc 4 1, 3) := by decide +kernel
theorem dM_missed_82 : decode bM_missed 82 = .ok (.goto (-46), 3) := by decide +kernel
theorem dM_missed_85 : decode bM_missed 85 = .ok (.iload_n 3, 1) := by decide +kernel
theorem dM_missed_86 : decode bM_missed 86 = .ok (.ireturn, 1) := by decide +kernel
theorem dM_stay_0 : decode bM_stay 0 = .ok (.iload_n 1, 1) := by decide +kernel
theorem dM_stay_1 : decode bM_stay 1 = .ok (.i2l, 1) := by decide +kernel
theorem dM_stay_2 : decode bM_stay 2 = .ok (.lconst 1, 1) := by decide +kernel
theorem dM_stay_3 : decode bM_stay 3 = .ok (.ldc2_w 70, 3) := by decide +kernel
theorem dM_stay_6 : decode bM_stay 6 = .ok (.invokestatic 72, 3) := by decide +kernel
theorem dM_stay_9 : decode bM_stay 9 = .ok (.ifCond .eq 25, 3) := by decide +kernel
theorem dM_stay_12 : decode bM_stay 12 = .ok (.iload_n 2, 1) := by decide +kernel
theorem dM_stay_13 : decode bM_stay 13 = .ok (.i2l, 1) := by decide +kernel
theorem dM_stay_14 : decode bM_stay 14 = .ok (.lconst 1, 1) := by decide +kernel
theorem dM_stay_15 : decode bM_stay 15 = .ok (.ldc2_w 273, 3) := by decide +kernel
theorem dM_stay_18 : decode bM_stay 18 = .ok (.invokestatic 72, 3) := by decide +kernel
theorem dM_stay_21 : decode bM_stay 21 = .ok (.ifCond .eq 13, 3) := by decide +kernel
theorem dM_stay_24 : decode bM_stay 24 = .ok (.iload_n 3, 1) := by decide +kernel
theorem dM_stay_25 : decode bM_stay 25 = .ok (.i2l, 1) := by decide +kernel
theorem dM_stay_26 : decode bM_stay 26 = .ok (.lconst 0, 1) := by decide +kernel
theorem dM_stay_27 : decode bM_stay 27 = .ok (.lconst 1, 1) := by decide +kernel
theorem dM_stay_28 : decode bM_stay 28 = .ok (.invokestatic 72, 3) := by decide +kernel
theorem dM_stay_31 : decode bM_stay 31 = .ok (.ifCond .ne 6, 3) := by decide +kernel
theorem dM_stay_34 : decode bM_stay 34 = .ok (.bipush (-102), 2) := by decide +kernel
theorem dM_stay_36 : decode bM_stay 36 = .ok (.ireturn, 1) := by decide +kernel
theorem dM_stay_37 : decode bM_stay 37 = .ok (.aload_n 0, 1) := by decide +kernel
theorem dM_stay_38 : decode bM_stay 38 = .ok (.getfield 89, 3) := by decide +kernel
theorem dM_stay_41 : decode bM_stay 41 = .ok (.iload_n 1, 1) := by decide +kernel
theorem dM_stay_42 : decode bM_stay 42 = .ok (.if_icmp .ge 5, 3) := by decide +kernel
theorem dM_stay_45 : decode bM_stay 45 = .ok (.iconst (-1), 1) := by decide +kernel
theorem dM_stay_46 : decode bM_stay 46 = .ok (.ireturn, 1) := by decide +kernel
theorem dM_stay_47 : decode bM_stay 47 = .ok (.iconst 0, 1) := by decide +kernel
theorem dM_stay_48 : decode bM_stay 48 = .ok (.istore 4, 2) := by decide +kernel
theorem dM_stay_50 : decode bM_stay 50 = .ok (.iconst 0, 1) := by decide +kernel
theorem dM_stay_51 : decode bM_stay 51 = .ok (.istore 5, 2) := by decide +kernel
theorem dM_stay_53 : decode bM_stay 53 = .ok (.iload 5, 2) := by decide +kernel
theorem dM_stay_55 : decode bM_stay 55 = .ok (.iload_n 1, 1) := by decide +kernel
theorem dM_stay_56 : decode bM_stay 56 = .ok (.if_icmp .ge 71, 3) := by decide +kernel
theorem dM_stay_59 : decode bM_stay 59 = .ok (.iconst 0, 1) := by decide +kernel
theorem dM_stay_60 : decode bM_stay 60 = .ok (.istore 5, 2) := by decide +kernel
theorem dM_stay_62 : decode bM_stay 62 = .ok (.iconst 0, 1) := by decide +kernel
theorem dM_stay_63 : decode bM_stay 63 = .ok (.istore 6, 2) := by decide +kernel
theorem dM_stay_65 : decode bM_stay 65 = .ok (.iload 6, 2) := by decide +kernel
theorem dM_stay_67 : decode bM_stay 67 = .ok (.aload_n 0, 1) := by decide +kernel
theorem dM_stay_68 : decode bM_stay 68 = .ok (.getfield 89, 3) := by decide +kernel
theorem dM_stay_71 : decode bM_stay 71 = .ok (.if_icmp .ge 37, 3) := by decide +kernel
theorem dM_stay_74 : decode bM_stay 74 = .ok (.iload 5, 2) := by decide +kernel
theorem dM_stay_76 : decode bM_stay 76 = .ok (.aload_n 0, 1) := by decide +kernel
theorem dM_stay_77 : decode bM_stay 77 = .ok (.getfield 7, 3) := by decide +kernel
theorem dM_stay_80 : decode bM_stay 80 = .ok (.bipush 7, 2) := by decide +kernel
theorem dM_stay_82 : decode bM_stay 82 = .ok (.iload 6, 2) := by decide +kernel
theorem dM_stay_84 : decode bM_stay 84 = .ok (.imul, 1) := by decide +kernel
theorem dM_stay_85 : decode bM_stay 85 = .ok (.bipush 6, 2) := by decide +kernel
theorem dM_stay_87 : decode bM_stay 87 = .ok (.iadd, 1) := by decide +kernel
theorem dM_stay_88 : decode bM_stay 88 = .ok (.iaload, 1) := by decide +kernel
theorem dM_stay_89 : decode bM_stay 89 = .ok (.iload 4, 2) := by decide +kernel
theorem dM_stay_91 : decode bM_stay 91 = .ok (.if_icmp .gt 7, 3) := by decide +kernel
theorem dM_stay_94 : decode bM_stay 94 = .ok (.iconst 1, 1) := by decide +kernel
theorem dM_stay_95 : decode bM_stay 95 = .ok (.goto 4, 3) := by decide +kernel
theorem dM_stay_98 : decode bM_stay 98 = .ok (.iconst 0, 1) := by decide +kernel
theorem dM_stay_99 : decode bM_stay 99 = .ok (.iadd, 1) := by decide +kernel
theorem dM_stay_100 : decode bM_stay 100 = .ok (.istore 5, 2) := by decide +kernel
theorem dM_stay_102 : decode bM_stay 102 = .ok (.iinc 6 1, 3) := by decide +kernel
theorem dM_stay_105 : decode bM_stay 105 = .ok (.goto (-40), 3) := by decide +kernel
theorem dM_stay_108 : decode bM_stay 108 = .ok (.iload 4, 2) := by decide +kernel
theorem dM_stay_110 : decode bM_stay 110 = .ok (.iload 5, 2) := by decide +kernel
theorem dM_stay_112 : decode bM_stay 112 = .ok (.iload_n 1, 1) := by decide +kernel
theorem dM_stay_113 : decode bM_stay 113 = .ok (.if_icmp .ge 7, 3) := by decide +kernel
theorem dM_stay_116 : decode bM_stay 116 = .ok (.iload_n 2, 1) := by decide +kernel
theorem dM_stay_117 : decode bM_stay 117 = .ok (.goto 4, 3) := by decide +kernel
theorem dM_stay_120 : decode bM_stay 120 = .ok (.iconst 0, 1) := by decide +kernel
theorem dM_stay_121 : decode bM_stay 121 = .ok (.iadd, 1) := by decide +kernel
theorem dM_stay_122 : decode bM_stay 122 = .ok (.istore 4, 2) := by decide +kernel
theorem dM_stay_124 : decode bM_stay 124 = .ok (.goto (-71), 3) := by decide +kernel
theorem dM_stay_127 : decode bM_stay 127 = .ok (.iload_n 3, 1) := by decide +kernel
theorem dM_stay_128 : decode bM_stay 128 = .ok (.ifCond .ne 8, 3) := by decide +kernel
theorem dM_stay_131 : decode bM_stay 131 = .ok (.iload 4, 2) := by decide +kernel
theorem dM_stay_133 : decode bM_stay 133 = .ok (.goto 7, 3) := by decide +kernel
theorem dM_stay_136 : decode bM_stay 136 = .ok (.iload 4, 2) := by decide +kernel
theorem dM_stay_138 : decode bM_stay 138 = .ok (.iload_n 1, 1) := by decide +kernel
theorem dM_stay_139 : decode bM_stay 139 = .ok (.imul, 1) := by decide +kernel
theorem dM_stay_140 : decode bM_stay 140 = .ok (.ireturn, 1) := by decide +kernel
theorem dM_image_0 : decode bM_image 0 = .ok (.aload_n 0, 1) := by decide +kernel
theorem dM_image_1 : decode bM_image 1 = .ok (.invokevirtual 95, 3) := by decide +kernel
theorem dM_image_4 : decode bM_image 4 = .ok (.ifCond .eq 6, 3) := by decide +kernel
theorem dM_image_7 : decode bM_image 7 = .ok (.bipush (-103), 2) := by decide +kernel
theorem dM_image_9 : decode bM_image 9 = .ok (.ireturn, 1) := by decide +kernel
theorem dM_image_10 : decode bM_image 10 = .ok (.iconst 0, 1) := by decide +kernel
theorem dM_image_11 : decode bM_image 11 = .ok (.istore_n 1, 1) := by decide +kernel
theorem dM_image_12 : decode bM_image 12 = .ok (.iload_n 1, 1) := by decide +kernel
theorem dM_image_13 : decode bM_image 13 = .ok (.aload_n 0, 1) := by decide +kernel
theorem dM_image_14 : decode bM_image 14 = .ok (.getfield 89, 3) := by decide +kernel
theorem dM_image_17 : decode bM_image 17 = .ok (.if_icmp .ge 50, 3) := by decide +kernel
theorem dM_image_20 : decode bM_image 20 = .ok (.aload_n 0, 1) := by decide +kernel
theorem dM_image_21 : decode bM_image 21 = .ok (.getfield 61, 3) := by decide +kernel
theorem dM_image_24 : decode bM_image 24 = .ok (.iconst 2, 1) := by decide +kernel
theorem dM_image_25 : decode bM_image 25 = .ok (.iload_n 1, 1) := by decide +kernel
theorem dM_image_26 : decode bM_image 26 = .ok (.imul, 1) := by decide +kernel
theorem dM_image_27 : decode bM_image 27 = .ok (.aload_n 0, 1) := by decide +kernel
theorem dM_image_28 : decode bM_image 28 = .ok (.getfield 7, 3) := by decide +kernel
theorem dM_image_31 : decode bM_image 31 = .ok (.bipush 7, 2) := by decide +kernel
theorem dM_image_33 : decode bM_image 33 = .ok (.iload_n 1, 1) := by decide +kernel
theorem dM_image_34 : decode bM_image 34 = .ok (.imul, 1) := by decide +kernel
theorem dM_image_35 : decode bM_image 35 = .ok (.iconst 5, 1) := by decide +kernel
theorem dM_image_36 : decode bM_image 36 = .ok (.iadd, 1) := by decide +kernel
theorem dM_image_37 : decode bM_image 37 = .ok (.iaload, 1) := by decide +kernel
theorem dM_image_38 : decode bM_image 38 = .ok (.iastore, 1) := by decide +kernel
theorem dM_image_39 : decode bM_image 39 = .ok (.aload_n 0, 1) := by decide +kernel
theorem dM_image_40 : decode bM_image 40 = .ok (.getfield 61, 3) := by decide +kernel
theorem dM_image_43 : decode bM_image 43 = .ok (.iconst 2, 1) := by decide +kernel
theorem dM_image_44 : decode bM_image 44 = .ok (.iload_n 1, 1) := by decide +kernel
theorem dM_image_45 : decode bM_image 45 = .ok (.imul, 1) := by decide +kernel
theorem dM_image_46 : decode bM_image 46 = .ok (.iconst 1, 1) := by decide +kernel
theorem dM_image_47 : decode bM_image 47 = .ok (.iadd, 1) := by decide +kernel
theorem dM_image_48 : decode bM_image 48 = .ok (.aload_n 0, 1) := by decide +kernel
theorem dM_image_49 : decode bM_image 49 = .ok (.getfield 7, 3) := by decide +kernel
theorem dM_image_52 : decode bM_image 52 = .ok (.bipush 7, 2) := by decide +kernel
theorem dM_image_54 : decode bM_image 54 = .ok (.iload_n 1, 1) := by decide +kernel
theorem dM_image_55 : decode bM_image 55 = .ok (.imul, 1) := by decide +kernel
theorem dM_image_56 : decode bM_image 56 = .ok (.bipush 6, 2) := by decide +kernel
theorem dM_image_58 : decode bM_image 58 = .ok (.iadd, 1) := by decide +kernel
theorem dM_image_59 : decode bM_image 59 = .ok (.iaload, 1) := by decide +kernel
theorem dM_image_60 : decode bM_image 60 = .ok (.iastore, 1) := by decide +kernel
theorem dM_image_61 : decode bM_image 61 = .ok (.iinc 1 1, 3) := by decide +kernel
theorem dM_image_64 : decode bM_image 64 = .ok (.goto (-52), 3) := by decide +kernel
theorem dM_image_67 : decode bM_image 67 = .ok (.aload_n 0, 1) := by decide +kernel
theorem dM_image_68 : decode bM_image 68 = .ok (.aload_n 0, 1) := by decide +kernel
theorem dM_image_69 : decode bM_image 69 = .ok (.getfield 89, 3) := by decide +kernel
theorem dM_image_72 : decode bM_image 72 = .ok (.putfield 64, 3) := by decide +kernel
theorem dM_image_75 : decode bM_image 75 = .ok (.aload_n 0, 1) := by decide +kernel
theorem dM_image_76 : decode bM_image 76 = .ok (.aload_n 0, 1) := by decide +kernel
theorem dM_image_77 : decode bM_image 77 = .ok (.getfield 92, 3) := by decide +kernel
theorem dM_image_80 : decode bM_image 80 = .ok (.putfield 275, 3) := by decide +kernel
theorem dM_image_83 : decode bM_image 83 = .ok (.aload_n 0, 1) := by decide +kernel
theorem dM_image_84 : decode bM_image 84 = .ok (.getfield 89, 3) := by decide +kernel
theorem dM_image_87 : decode bM_image 87 = .ok (.ireturn, 1) := by decide +kernel
theorem dM_restore_0 : decode bM_restore 0 = .ok (.aload_n 0, 1) := by decide +kernel
theorem dM_restore_1 : decode bM_restore 1 = .ok (.getfield 64, 3) := by decide +kernel
theorem dM_restore_4 : decode bM_restore 4 = .ok (.iconst (-1), 1) := by decide +kernel
theorem dM_restore_5 : decode bM_restore 5 = .ok (.if_icmp .eq 14, 3) := by decide +kernel
theorem dM_restore_8 : decode bM_restore 8 = .ok (.aload_n 0, 1) := by decide +kernel
theorem dM_restore_9 : decode bM_restore 9 = .ok (.getfield 275, 3) := by decide +kernel
theorem dM_restore_12 : decode bM_restore 12 = .ok (.aload_n 0, 1) := by decide +kernel
theorem dM_restore_13 : decode bM_restore 13 = .ok (.getfield 92, 3) := by decide +kernel
theorem dM_restore_16 : decode bM_restore 16 = .ok (.if_icmp .eq 6, 3) := by decide +kernel
theorem dM_restore_19 : decode bM_restore 19 = .ok (.bipush (-103), 2) := by decide +kernel
theorem dM_restore_21 : decode bM_restore 21 = .ok (.ireturn, 1) := by decide +kernel
theorem dM_restore_22 : decode bM_restore 22 = .ok (.aload_n 0, 1) := by decide +kernel
theorem dM_restore_23 : decode bM_restore 23 = .ok (.aload_n 0, 1) := by decide +kernel
theorem dM_restore_24 : decode bM_restore 24 = .ok (.getfield 64, 3) := by decide +kernel
theorem dM_restore_27 : decode bM_restore 27 = .ok (.putfield 89, 3) := by decide +kernel
theorem dM_restore_30 : decode bM_restore 30 = .ok (.iconst 0, 1) := by decide +kernel
theorem dM_restore_31 : decode bM_restore 31 = .ok (.istore_n 1, 1) := by decide +kernel
theorem dM_restore_32 : decode bM_restore 32 = .ok (.iload_n 1, 1) := by decide +kernel
theorem dM_restore_33 : decode bM_restore 33 = .ok (.aload_n 0, 1) := by decide +kernel
theorem dM_restore_34 : decode bM_restore 34 = .ok (.getfield 89, 3) := by decide +kernel
theorem dM_restore_37 : decode bM_restore 37 = .ok (.if_icmp .ge 50, 3) := by decide +kernel
theorem dM_restore_40 : decode bM_restore 40 = .ok (.aload_n 0, 1) := by decide +kernel
theorem dM_restore_41 : decode bM_restore 41 = .ok (.getfield 7, 3) := by decide +kernel
theorem dM_restore_44 : decode bM_restore 44 = .ok (.bipush 7, 2) := by decide +kernel
theorem dM_restore_46 : decode bM_restore 46 = .ok (.iload_n 1, 1) := by decide +kernel
theorem dM_restore_47 : decode bM_restore 47 = .ok (.imul, 1) := by decide +kernel
theorem dM_restore_48 : decode bM_restore 48 = .ok (.iconst 5, 1) := by decide +kernel
theorem dM_restore_49 : decode bM_restore 49 = .ok (.iadd, 1) := by decide +kernel
theorem dM_restore_50 : decode bM_restore 50 = .ok (.aload_n 0, 1) := by decide +kernel
theorem dM_restore_51 : decode bM_restore 51 = .ok (.getfield 61, 3) := by decide +kernel
theorem dM_restore_54 : decode bM_restore 54 = .ok (.iconst 2, 1) := by decide +kernel
theorem dM_restore_55 : decode bM_restore 55 = .ok (.iload_n 1, 1) := by decide +kernel
theorem dM_restore_56 : decode bM_restore 56 = .ok (.imul, 1) := by decide +kernel
theorem dM_restore_57 : decode bM_restore 57 = .ok (.iaload, 1) := by decide +kernel
theorem dM_restore_58 : decode bM_restore 58 = .ok (.iastore, 1) := by decide +kernel
theorem dM_restore_59 : decode bM_restore 59 = .ok (.aload_n 0, 1) := by decide +kernel
theorem dM_restore_60 : decode bM_restore 60 = .ok (.getfield 7, 3) := by decide +kernel
theorem dM_restore_63 : decode bM_restore 63 = .ok (.bipush 7, 2) := by decide +kernel
theorem dM_restore_65 : decode bM_restore 65 = .ok (.iload_n 1, 1) := by decide +kernel
theorem dM_restore_66 : decode bM_restore 66 = .ok (.imul, 1) := by decide +kernel
theorem dM_restore_67 : decode bM_restore 67 = .ok (.bipush 6, 2) := by decide +kernel
theorem dM_restore_69 : decode bM_restore 69 = .ok (.iadd, 1) := by decide +kernel
theorem dM_restore_70 : decode bM_restore 70 = .ok (.aload_n 0, 1) := by decide +kernel
theorem dM_restore_71 : decode bM_restore 71 = .ok (.getfield 61, 3) := by decide +kernel
theorem dM_restore_74 : decode bM_restore 74 = .ok (.iconst 2, 1) := by decide +kernel
theorem dM_restore_75 : decode bM_restore 75 = .ok (.iload_n 1, 1) := by decide +kernel
theorem dM_restore_76 : decode bM_restore 76 = .ok (.imul, 1) := by decide +kernel
theorem dM_restore_77 : decode bM_restore 77 = .ok (.iconst 1, 1) := by decide +kernel
theorem dM_restore_78 : decode bM_restore 78 = .ok (.iadd, 1) := by decide +kernel
theorem dM_restore_79 : decode bM_restore 79 = .ok (.iaload, 1) := by decide +kernel
theorem dM_restore_80 : decode bM_restore 80 = .ok (.iastore, 1) := by decide +kernel
theorem dM_restore_81 : decode bM_restore 81 = .ok (.iinc 1 1, 3) := by decide +kernel
theorem dM_restore_84 : decode bM_restore 84 = .ok (.goto (-52), 3) := by decide +kernel
theorem dM_restore_87 : decode bM_restore 87 = .ok (.aload_n 0, 1) := by decide +kernel
theorem dM_restore_88 : decode bM_restore 88 = .ok (.getfield 89, 3) := by decide +kernel
theorem dM_restore_91 : decode bM_restore 91 = .ok (.ireturn, 1) := by decide +kernel
theorem dM_bagsOfAll_0 : decode bM_bagsOfAll 0 = .ok (.iconst 0, 1) := by decide +kernel
theorem dM_bagsOfAll_1 : decode bM_bagsOfAll 1 = .ok (.istore_n 1, 1) := by decide +kernel
theorem dM_bagsOfAll_2 : decode bM_bagsOfAll 2 = .ok (.iconst 0, 1) := by decide +kernel
theorem dM_bagsOfAll_3 : decode bM_bagsOfAll 3 = .ok (.istore_n 2, 1) := by decide +kernel
theorem dM_bagsOfAll_4 : decode bM_bagsOfAll 4 = .ok (.iload_n 2, 1) := by decide +kernel
theorem dM_bagsOfAll_5 : decode bM_bagsOfAll 5 = .ok (.aload_n 0, 1) := by decide +kernel
theorem dM_bagsOfAll_6 : decode bM_bagsOfAll 6 = .ok (.getfield 89, 3) := by decide +kernel
theorem dM_bagsOfAll_9 : decode bM_bagsOfAll 9 = .ok (.if_icmp .ge 23, 3) := by decide +kernel
theorem dM_bagsOfAll_12 : decode bM_bagsOfAll 12 = .ok (.iload_n 1, 1) := by decide +kernel
theorem dM_bagsOfAll_13 : decode bM_bagsOfAll 13 = .ok (.aload_n 0, 1) := by decide +kernel
theorem dM_bagsOfAll_14 : decode bM_bagsOfAll 14 = .ok (.getfield 7, 3) := by decide +kernel
theorem dM_bagsOfAll_17 : decode bM_bagsOfAll 17 = .ok (.bipush 7, 2) := by decide +kernel
theorem dM_bagsOfAll_19 : decode bM_bagsOfAll 19 = .ok (.iload_n 2, 1) := by decide +kernel
theorem dM_bagsOfAll_20 : decode bM_bagsOfAll 20 = .ok (.imul, 1) := by decide +kernel
theorem dM_bagsOfAll_21 : decode bM_bagsOfAll 21 = .ok (.iconst 5, 1) := by decide +kernel
theorem dM_bagsOfAll_22 : decode bM_bagsOfAll 22 = .ok (.iadd, 1) := by decide +kernel
theorem dM_bagsOfAll_23 : decode bM_bagsOfAll 23 = .ok (.iaload, 1) := by decide +kernel
theorem dM_bagsOfAll_24 : decode bM_bagsOfAll 24 = .ok (.iadd, 1) := by decide +kernel
theorem dM_bagsOfAll_25 : decode bM_bagsOfAll 25 = .ok (.istore_n 1, 1) := by decide +kernel
theorem dM_bagsOfAll_26 : decode bM_bagsOfAll 26 = .ok (.iinc 2 1, 3) := by decide +kernel
theorem dM_bagsOfAll_29 : decode bM_bagsOfAll 29 = .ok (.goto (-25), 3) := by decide +kernel
theorem dM_bagsOfAll_32 : decode bM_bagsOfAll 32 = .ok (.iload_n 1, 1) := by decide +kernel
theorem dM_bagsOfAll_33 : decode bM_bagsOfAll 33 = .ok (.ireturn, 1) := by decide +kernel
theorem dM_countOf_0 : decode bM_countOf 0 = .ok (.iload_n 1, 1) := by decide +kernel
theorem dM_countOf_1 : decode bM_countOf 1 = .ok (.tableswitch 103 0 8 #[51, 56, 68, 73, 78, 83, 88, 93, 98], 51) := by decide +kernel
theorem dM_countOf_52 : decode bM_countOf 52 = .ok (.aload_n 0, 1) := by decide +kernel
theorem dM_countOf_53 : decode bM_countOf 53 = .ok (.getfield 80, 3) := by decide +kernel
theorem dM_countOf_56 : decode bM_countOf 56 = .ok (.ireturn, 1) := by decide +kernel
theorem dM_countOf_57 : decode bM_countOf 57 = .ok (.iconst 2, 1) := by decide +kernel
theorem dM_countOf_58 : decode bM_countOf 58 = .ok (.aload_n 0, 1) := by decide +kernel
theorem dM_countOf_59 : decode bM_countOf 59 = .ok (.getfield 80, 3) := by decide +kernel
theorem dM_countOf_62 : decode bM_countOf 62 = .ok (.imul, 1) := by decide +kernel
theorem dM_countOf_63 : decode bM_countOf 63 = .ok (.aload_n 0, 1) := by decide +kernel
theorem dM_countOf_64 : decode bM_countOf 64 = .ok (.getfield 83, 3) := by decide +kernel
theorem dM_countOf_67 : decode bM_countOf 67 = .ok (.imul, 1) := by decide +kernel
theorem dM_countOf_68 : decode bM_countOf 68 = .ok (.ireturn, 1) := by decide +kernel
theorem dM_countOf_69 : decode bM_countOf 69 = .ok (.aload_n 0, 1) := by decide +kernel
theorem dM_countOf_70 : decode bM_countOf 70 = .ok (.getfield 86, 3) := by decide +kernel
theorem dM_countOf_73 : decode bM_countOf 73 = .ok (.ireturn, 1) := by decide +kernel
theorem dM_countOf_74 : decode bM_countOf 74 = .ok (.aload_n 0, 1) := by decide +kernel
theorem dM_countOf_75 : decode bM_countOf 75 = .ok (.getfield 89, 3) := by decide +kernel
theorem dM_countOf_78 : decode bM_countOf 78 = .ok (.ireturn, 1) := by decide +kernel
theorem dM_countOf_79 : decode bM_countOf 79 = .ok (.aload_n 0, 1) := by decide +kernel
theorem dM_countOf_80 : decode bM_countOf 80 = .ok (.getfield 136, 3) := by decide +kernel
theorem dM_countOf_83 : decode bM_countOf 83 = .ok (.ireturn, 1) := by decide +kernel
theorem dM_countOf_84 : decode bM_countOf 84 = .ok (.aload_n 0, 1) := by decide +kernel
theorem dM_countOf_85 : decode bM_countOf 85 = .ok (.getfield 113, 3) := by decide +kernel
theorem dM_countOf_88 : decode bM_countOf 88 = .ok (.ireturn, 1) := by decide +kernel
theorem dM_countOf_89 : decode bM_countOf 89 = .ok (.aload_n 0, 1) := by decide +kernel
theorem dM_countOf_90 : decode bM_countOf 90 = .ok (.getfield 92, 3) := by decide +kernel
theorem dM_countOf_93 : decode bM_countOf 93 = .ok (.ireturn, 1) := by decide +kernel
theorem dM_countOf_94 : decode bM_countOf 94 = .ok (.aload_n 0, 1) := by decide +kernel
theorem dM_countOf_95 : decode bM_countOf 95 = .ok (.getfield 228, 3) := by decide +kernel
theorem dM_countOf_98 : decode bM_countOf 98 = .ok (.ireturn, 1) := by decide +kernel
theorem dM_countOf_99 : decode bM_countOf 99 = .ok (.aload_n 0, 1) := by decide +kernel
theorem dM_countOf_100 : decode bM_countOf 100 = .ok (.invokevirtual 278, 3) := by decide +kernel
theorem dM_countOf_103 : decode bM_countOf 103 = .ok (.ireturn, 1) := by decide +kernel
theorem dM_countOf_104 : decode bM_countOf 104 = .ok (.bipush (-102), 2) := by decide +kernel
theorem dM_countOf_106 : decode bM_countOf 106 = .ok (.ireturn, 1) := by decide +kernel
theorem dM_count_0 : decode bM_count 0 = .ok (.aload_n 0, 1) := by decide +kernel
theorem dM_count_1 : decode bM_count 1 = .ok (.iload_n 1, 1) := by decide +kernel
theorem dM_count_2 : decode bM_count 2 = .ok (.invokevirtual 281, 3) := by decide +kernel
theorem dM_count_5 : decode bM_count 5 = .ok (.ireturn, 1) := by decide +kernel
theorem dM_say_0 : decode bM_say 0 = .ok (.aload_n 0, 1) := by decide +kernel
theorem dM_say_1 : decode bM_say 1 = .ok (.ldc2_w 284, 3) := by decide +kernel
theorem dM_say_4 : decode bM_say 4 = .ok (.aload_n 0, 1) := by decide +kernel
theorem dM_say_5 : decode bM_say 5 = .ok (.getfield 286, 3) := by decide +kernel
theorem dM_say_8 : decode bM_say 8 = .ok (.lmul, 1) := by decide +kernel
theorem dM_say_9 : decode bM_say 9 = .ok (.lload_n 1, 1) := by decide +kernel
theorem dM_say_10 : decode bM_say 10 = .ok (.ladd, 1) := by decide +kernel
theorem dM_say_11 : decode bM_say 11 = .ok (.putfield 286, 3) := by decide +kernel
theorem dM_say_14 : decode bM_say 14 = .ok (.return_, 1) := by decide +kernel
theorem dM_sayCalls_0 : decode bM_sayCalls 0 = .ok (.iconst 0, 1) := by decide +kernel
theorem dM_sayCalls_1 : decode bM_sayCalls 1 = .ok (.istore_n 1, 1) := by decide +kernel
theorem dM_sayCalls_2 : decode bM_sayCalls 2 = .ok (.iload_n 1, 1) := by decide +kernel
theorem dM_sayCalls_3 : decode bM_sayCalls 3 = .ok (.aload_n 0, 1) := by decide +kernel
theorem dM_sayCalls_4 : decode bM_sayCalls 4 = .ok (.getfield 136, 3) := by decide +kernel
theorem dM_sayCalls_7 : decode bM_sayCalls 7 = .ok (.if_icmp .ge 80, 3) := by decide +kernel
theorem dM_sayCalls_10 : decode bM_sayCalls 10 = .ok (.aload_n 0, 1) := by decide +kernel
theorem dM_sayCalls_11 : decode bM_sayCalls 11 = .ok (.iconst 3, 1) := by decide +kernel
theorem dM_sayCalls_12 : decode bM_sayCalls 12 = .ok (.invokevirtual 174, 3) := by decide +kernel
theorem dM_sayCalls_15 : decode bM_sayCalls 15 = .ok (.aload_n 0, 1) := by decide +kernel
theorem dM_sayCalls_16 : decode bM_sayCalls 16 = .ok (.iload_n 1, 1) := by decide +kernel
theorem dM_sayCalls_17 : decode bM_sayCalls 17 = .ok (.invokevirtual 178, 3) := by decide +kernel
theorem dM_sayCalls_20 : decode bM_sayCalls 20 = .ok (.iconst 0, 1) := by decide +kernel
theorem dM_sayCalls_21 : decode bM_sayCalls 21 = .ok (.istore_n 2, 1) := by decide +kernel
theorem dM_sayCalls_22 : decode bM_sayCalls 22 = .ok (.iload_n 2, 1) := by decide +kernel
theorem dM_sayCalls_23 : decode bM_sayCalls 23 = .ok (.aload_n 0, 1) := by decide +kernel
theorem dM_sayCalls_24 : decode bM_sayCalls 24 = .ok (.getfield 156, 3) := by decide +kernel
theorem dM_sayCalls_27 : decode bM_sayCalls 27 = .ok (.if_icmp .ge 20, 3) := by decide +kernel
theorem dM_sayCalls_30 : decode bM_sayCalls 30 = .ok (.aload_n 0, 1) := by decide +kernel
theorem dM_sayCalls_31 : decode bM_sayCalls 31 = .ok (.aload_n 0, 1) := by decide +kernel
theorem dM_sayCalls_32 : decode bM_sayCalls 32 = .ok (.getfield 28, 3) := by decide +kernel
theorem dM_sayCalls_35 : decode bM_sayCalls 35 = .ok (.iload_n 2, 1) := by decide +kernel
theorem dM_sayCalls_36 : decode bM_sayCalls 36 = .ok (.iaload, 1) := by decide +kernel
theorem dM_sayCalls_37 : decode bM_sayCalls 37 = .ok (.i2l, 1) := by decide +kernel
theorem dM_sayCalls_38 : decode bM_sayCalls 38 = .ok (.invokevirtual 290, 3) := by decide +kernel
theorem dM_sayCalls_41 : decode bM_sayCalls 41 = .ok (.iinc 2 1, 3) := by decide +kernel
theorem dM_sayCalls_44 : decode bM_sayCalls 44 = .ok (.goto (-22), 3) := by decide +kernel
theorem dM_sayCalls_47 : decode bM_sayCalls 47 = .ok (.iconst 0, 1) := by decide +kernel
theorem dM_sayCalls_48 : decode bM_sayCalls 48 = .ok (.istore_n 2, 1) := by decide +kernel
theorem dM_sayCalls_49 : decode bM_sayCalls 49 = .ok (.iload_n 2, 1) := by decide +kernel
theorem dM_sayCalls_50 : decode bM_sayCalls 50 = .ok (.iconst 3, 1) := by decide +kernel
theorem dM_sayCalls_51 : decode bM_sayCalls 51 = .ok (.if_icmp .ge 20, 3) := by decide +kernel
theorem dM_sayCalls_54 : decode bM_sayCalls 54 = .ok (.aload_n 0, 1) := by decide +kernel
theorem dM_sayCalls_55 : decode bM_sayCalls 55 = .ok (.aload_n 0, 1) := by decide +kernel
theorem dM_sayCalls_56 : decode bM_sayCalls 56 = .ok (.iload_n 1, 1) := by decide +kernel
theorem dM_sayCalls_57 : decode bM_sayCalls 57 = .ok (.iload_n 2, 1) := by decide +kernel
theorem dM_sayCalls_58 : decode bM_sayCalls 58 = .ok (.invokevirtual 215, 3) := by decide +kernel
theorem dM_sayCalls_61 : decode bM_sayCalls 61 = .ok (.i2l, 1) := by decide +kernel
theorem dM_sayCalls_62 : decode bM_sayCalls 62 = .ok (.invokevirtual 290, 3) := by decide +kernel
theorem dM_sayCalls_65 : decode bM_sayCalls 65 = .ok (.iinc 2 1, 3) := by decide +kernel
theorem dM_sayCalls_68 : decode bM_sayCalls 68 = .ok (.goto (-19), 3) := by decide +kernel
theorem dM_sayCalls_71 : decode bM_sayCalls 71 = .ok (.aload_n 0, 1) := by decide +kernel
theorem dM_sayCalls_72 : decode bM_sayCalls 72 = .ok (.aload_n 0, 1) := by decide +kernel
theorem dM_sayCalls_73 : decode bM_sayCalls 73 = .ok (.iload_n 1, 1) := by decide +kernel
theorem dM_sayCalls_74 : decode bM_sayCalls 74 = .ok (.invokevirtual 240, 3) := by decide +kernel
theorem dM_sayCalls_77 : decode bM_sayCalls 77 = .ok (.i2l, 1) := by decide +kernel
theorem dM_sayCalls_78 : decode bM_sayCalls 78 = .ok (.invokevirtual 290, 3) := by decide +kernel
theorem dM_sayCalls_81 : decode bM_sayCalls 81 = .ok (.iinc 1 1, 3) := by decide +kernel
theorem dM_sayCalls_84 : decode bM_sayCalls 84 = .ok (.goto (-82), 3) := by decide +kernel
theorem dM_sayCalls_87 : decode bM_sayCalls 87 = .ok (.iconst 0, 1) := by decide +kernel
theorem dM_sayCalls_88 : decode bM_sayCalls 88 = .ok (.istore_n 1, 1) := by decide +kernel
theorem dM_sayCalls_89 : decode bM_sayCalls 89 = .ok (.iload_n 1, 1) := by decide +kernel
theorem dM_sayCalls_90 : decode bM_sayCalls 90 = .ok (.iconst 3, 1) := by decide +kernel
theorem dM_sayCalls_91 : decode bM_sayCalls 91 = .ok (.if_icmp .ge 19, 3) := by decide +kernel
theorem dM_sayCalls_94 : decode bM_sayCalls 94 = .ok (.aload_n 0, 1) := by decide +kernel
theorem dM_sayCalls_95 : decode bM_sayCalls 95 = .ok (.aload_n 0, 1) := by decide +kernel
theorem dM_sayCalls_96 : decode bM_sayCalls 96 = .ok (.iload_n 1, 1) := by decide +kernel
theorem dM_sayCalls_97 : decode bM_sayCalls 97 = .ok (.invokevirtual 270, 3) := by decide +kernel
theorem dM_sayCalls_100 : decode bM_sayCalls 100 = .ok (.i2l, 1) := by decide +kernel
theorem dM_sayCalls_101 : decode bM_sayCalls 101 = .ok (.invokevirtual 290, 3) := by decide +kernel
theorem dM_sayCalls_104 : decode bM_sayCalls 104 = .ok (.iinc 1 1, 3) := by decide +kernel
theorem dM_sayCalls_107 : decode bM_sayCalls 107 = .ok (.goto (-18), 3) := by decide +kernel
theorem dM_sayCalls_110 : decode bM_sayCalls 110 = .ok (.aload_n 0, 1) := by decide +kernel
theorem dM_sayCalls_111 : decode bM_sayCalls 111 = .ok (.aload_n 0, 1) := by decide +kernel
theorem dM_sayCalls_112 : decode bM_sayCalls 112 = .ok (.invokevirtual 222, 3) := by decide +kernel
theorem dM_sayCalls_115 : decode bM_sayCalls 115 = .ok (.i2l, 1) := by decide +kernel
theorem dM_sayCalls_116 : decode bM_sayCalls 116 = .ok (.invokevirtual 290, 3) := by decide +kernel
theorem dM_sayCalls_119 : decode bM_sayCalls 119 = .ok (.iconst 0, 1) := by decide +kernel
theorem dM_sayCalls_120 : decode bM_sayCalls 120 = .ok (.istore_n 1, 1) := by decide +kernel
theorem dM_sayCalls_121 : decode bM_sayCalls 121 = .ok (.iload_n 1, 1) := by decide +kernel
theorem dM_sayCalls_122 : decode bM_sayCalls 122 = .ok (.iconst 3, 1) := by decide +kernel
theorem dM_sayCalls_123 : decode bM_sayCalls 123 = .ok (.if_icmp .ge 21, 3) := by decide +kernel
theorem dM_sayCalls_126 : decode bM_sayCalls 126 = .ok (.aload_n 0, 1) := by decide +kernel
theorem dM_sayCalls_127 : decode bM_sayCalls 127 = .ok (.aload_n 0, 1) := by decide +kernel
theorem dM_sayCalls_128 : decode bM_sayCalls 128 = .ok (.iconst 2, 1) := by decide +kernel
theorem dM_sayCalls_129 : decode bM_sayCalls 129 = .ok (.iconst 5, 1) := by decide +kernel
theorem dM_sayCalls_130 : decode bM_sayCalls 130 = .ok (.iload_n 1, 1) := by decide +kernel
theorem dM_sayCalls_131 : decode bM_sayCalls 131 = .ok (.invokevirtual 258, 3) := by decide +kernel
theorem dM_sayCalls_134 : decode bM_sayCalls 134 = .ok (.i2l, 1) := by decide +kernel
theorem dM_sayCalls_135 : decode bM_sayCalls 135 = .ok (.invokevirtual 290, 3) := by decide +kernel
theorem dM_sayCalls_138 : decode bM_sayCalls 138 = .ok (.iinc 1 1, 3) := by decide +kernel
theorem dM_sayCalls_141 : decode bM_sayCalls 141 = .ok (.goto (-20), 3) := by decide +kernel
theorem dM_sayCalls_144 : decode bM_sayCalls 144 = .ok (.return_, 1) := by decide +kernel
theorem dM_digest_0 : decode bM_digest 0 = .ok (.aload_n 0, 1) := by decide +kernel
theorem dM_digest_1 : decode bM_digest 1 = .ok (.ldc2_w 294, 3) := by decide +kernel
theorem dM_digest_4 : decode bM_digest 4 = .ok (.putfield 286, 3) := by decide +kernel
theorem dM_digest_7 : decode bM_digest 7 = .ok (.iconst 0, 1) := by decide +kernel
theorem dM_digest_8 : decode bM_digest 8 = .ok (.istore_n 1, 1) := by decide +kernel
theorem dM_digest_9 : decode bM_digest 9 = .ok (.iload_n 1, 1) := by decide +kernel
theorem dM_digest_10 : decode bM_digest 10 = .ok (.bipush 7, 2) := by decide +kernel
theorem dM_digest_12 : decode bM_digest 12 = .ok (.aload_n 0, 1) := by decide +kernel
theorem dM_digest_13 : decode bM_digest 13 = .ok (.getfield 89, 3) := by decide +kernel
theorem dM_digest_16 : decode bM_digest 16 = .ok (.imul, 1) := by decide +kernel
theorem dM_digest_17 : decode bM_digest 17 = .ok (.if_icmp .ge 20, 3) := by decide +kernel
theorem dM_digest_20 : decode bM_digest 20 = .ok (.aload_n 0, 1) := by decide +kernel
theorem dM_digest_21 : decode bM_digest 21 = .ok (.aload_n 0, 1) := by decide +kernel
theorem dM_digest_22 : decode bM_digest 22 = .ok (.getfield 7, 3) := by decide +kernel
theorem dM_digest_25 : decode bM_digest 25 = .ok (.iload_n 1, 1) := by decide +kernel
theorem dM_digest_26 : decode bM_digest 26 = .ok (.iaload, 1) := by decide +kernel
theorem dM_digest_27 : decode bM_digest 27 = .ok (.i2l, 1) := by decide +kernel
theorem dM_digest_28 : decode bM_digest 28 = .ok (.invokevirtual 290, 3) := by decide +kernel
theorem dM_digest_31 : decode bM_digest 31 = .ok (.iinc 1 1, 3) := by decide +kernel
theorem dM_digest_34 : decode bM_digest 34 = .ok (.goto (-25), 3) := by decide +kernel
theorem dM_digest_37 : decode bM_digest 37 = .ok (.aload_n 0, 1) := by decide +kernel
theorem dM_digest_38 : decode bM_digest 38 = .ok (.invokevirtual 95, 3) := by decide +kernel
theorem dM_digest_41 : decode bM_digest 41 = .ok (.ifCond .ne 7, 3) := by decide +kernel
theorem dM_digest_44 : decode bM_digest 44 = .ok (.aload_n 0, 1) := by decide +kernel
theorem dM_digest_45 : decode bM_digest 45 = .ok (.invokevirtual 296, 3) := by decide +kernel
theorem dM_digest_48 : decode bM_digest 48 = .ok (.iconst 0, 1) := by decide +kernel
theorem dM_digest_49 : decode bM_digest 49 = .ok (.istore_n 1, 1) := by decide +kernel
theorem dM_digest_50 : decode bM_digest 50 = .ok (.iload_n 1, 1) := by decide +kernel
theorem dM_digest_51 : decode bM_digest 51 = .ok (.aload_n 0, 1) := by decide +kernel
theorem dM_digest_52 : decode bM_digest 52 = .ok (.getfield 113, 3) := by decide +kernel
theorem dM_digest_55 : decode bM_digest 55 = .ok (.if_icmp .ge 20, 3) := by decide +kernel
theorem dM_digest_58 : decode bM_digest 58 = .ok (.aload_n 0, 1) := by decide +kernel
theorem dM_digest_59 : decode bM_digest 59 = .ok (.aload_n 0, 1) := by decide +kernel
theorem dM_digest_60 : decode bM_digest 60 = .ok (.getfield 13, 3) := by decide +kernel
theorem dM_digest_63 : decode bM_digest 63 = .ok (.iload_n 1, 1) := by decide +kernel
theorem dM_digest_64 : decode bM_digest 64 = .ok (.iaload, 1) := by decide +kernel
theorem dM_digest_65 : decode bM_digest 65 = .ok (.i2l, 1) := by decide +kernel
theorem dM_digest_66 : decode bM_digest 66 = .ok (.invokevirtual 290, 3) := by decide +kernel
theorem dM_digest_69 : decode bM_digest 69 = .ok (.iinc 1 1, 3) := by decide +kernel
theorem dM_digest_72 : decode bM_digest 72 = .ok (.goto (-22), 3) := by decide +kernel
theorem dM_digest_75 : decode bM_digest 75 = .ok (.iconst 0, 1) := by decide +kernel
theorem dM_digest_76 : decode bM_digest 76 = .ok (.istore_n 1, 1) := by decide +kernel
theorem dM_digest_77 : decode bM_digest 77 = .ok (.iload_n 1, 1) := by decide +kernel
theorem dM_digest_78 : decode bM_digest 78 = .ok (.bipush 9, 2) := by decide +kernel
theorem dM_digest_80 : decode bM_digest 80 = .ok (.if_icmp .ge 19, 3) := by decide +kernel
theorem dM_digest_83 : decode bM_digest 83 = .ok (.aload_n 0, 1) := by decide +kernel
theorem dM_digest_84 : decode bM_digest 84 = .ok (.aload_n 0, 1) := by decide +kernel
theorem dM_digest_85 : decode bM_digest 85 = .ok (.iload_n 1, 1) := by decide +kernel
theorem dM_digest_86 : decode bM_digest 86 = .ok (.invokevirtual 281, 3) := by decide +kernel
theorem dM_digest_89 : decode bM_digest 89 = .ok (.i2l, 1) := by decide +kernel
theorem dM_digest_90 : decode bM_digest 90 = .ok (.invokevirtual 290, 3) := by decide +kernel
theorem dM_digest_93 : decode bM_digest 93 = .ok (.iinc 1 1, 3) := by decide +kernel
theorem dM_digest_96 : decode bM_digest 96 = .ok (.goto (-19), 3) := by decide +kernel
theorem dM_digest_99 : decode bM_digest 99 = .ok (.aload_n 0, 1) := by decide +kernel
theorem dM_digest_100 : decode bM_digest 100 = .ok (.getfield 286, 3) := by decide +kernel
theorem dM_digest_103 : decode bM_digest 103 = .ok (.lreturn, 1) := by decide +kernel
