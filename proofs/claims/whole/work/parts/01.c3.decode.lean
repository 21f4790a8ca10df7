theorem dX7_truncate_186 : decode cX7_truncate 186 = .ok (.invokevirtual 146, 3) := by decide +kernel
theorem dX7_truncate_189 : decode cX7_truncate 189 = .ok (.ifCond .eq 13, 3) := by decide +kernel
theorem dX7_truncate_192 : decode cX7_truncate 192 = .ok (.aload_n 0, 1) := by decide +kernel
theorem dX7_truncate_193 : decode cX7_truncate 193 = .ok (.getfield 28, 3) := by decide +kernel
theorem dX7_truncate_196 : decode cX7_truncate 196 = .ok (.iload 4, 2) := by decide +kernel
theorem dX7_truncate_198 : decode cX7_truncate 198 = .ok (.iaload, 1) := by decide +kernel
theorem dX7_truncate_199 : decode cX7_truncate 199 = .ok (.goto 7, 3) := by decide +kernel
theorem dX7_truncate_202 : decode cX7_truncate 202 = .ok (.aload_n 0, 1) := by decide +kernel
theorem dX7_truncate_203 : decode cX7_truncate 203 = .ok (.getfield 186, 3) := by decide +kernel
theorem dX7_truncate_206 : decode cX7_truncate 206 = .ok (.iastore, 1) := by decide +kernel
theorem dX7_truncate_207 : decode cX7_truncate 207 = .ok (.iload_n 3, 1) := by decide +kernel
theorem dX7_truncate_208 : decode cX7_truncate 208 = .ok (.ireturn, 1) := by decide +kernel
theorem dX7_punch_0 : decode cX7_punch 0 = .ok (.iload_n 1, 1) := by decide +kernel
theorem dX7_punch_1 : decode cX7_punch 1 = .ok (.invokestatic 168, 3) := by decide +kernel
theorem dX7_punch_4 : decode cX7_punch 4 = .ok (.ifCond .eq 22, 3) := by decide +kernel
theorem dX7_punch_7 : decode cX7_punch 7 = .ok (.iload_n 2, 1) := by decide +kernel
theorem dX7_punch_8 : decode cX7_punch 8 = .ok (.invokestatic 202, 3) := by decide +kernel
theorem dX7_punch_11 : decode cX7_punch 11 = .ok (.ifCond .eq 15, 3) := by decide +kernel
theorem dX7_punch_14 : decode cX7_punch 14 = .ok (.iload_n 3, 1) := by decide +kernel
theorem dX7_punch_15 : decode cX7_punch 15 = .ok (.iconst 1, 1) := by decide +kernel
theorem dX7_punch_16 : decode cX7_punch 16 = .ok (.if_icmp .lt 10, 3) := by decide +kernel
theorem dX7_punch_19 : decode cX7_punch 19 = .ok (.iload_n 3, 1) := by decide +kernel
theorem dX7_punch_20 : decode cX7_punch 20 = .ok (.sipush 256, 3) := by decide +kernel
theorem dX7_punch_23 : decode cX7_punch 23 = .ok (.if_icmp .le 6, 3) := by decide +kernel
theorem dX7_punch_26 : decode cX7_punch 26 = .ok (.bipush (-2), 2) := by decide +kernel
theorem dX7_punch_28 : decode cX7_punch 28 = .ok (.ireturn, 1) := by decide +kernel
theorem dX7_punch_29 : decode cX7_punch 29 = .ok (.iconst 0, 1) := by decide +kernel
theorem dX7_punch_30 : decode cX7_punch 30 = .ok (.istore 4, 2) := by decide +kernel
theorem dX7_punch_32 : decode cX7_punch 32 = .ok (.iload_n 2, 1) := by decide +kernel
theorem dX7_punch_33 : decode cX7_punch 33 = .ok (.istore 5, 2) := by decide +kernel
theorem dX7_punch_35 : decode cX7_punch 35 = .ok (.iload 5, 2) := by decide +kernel
theorem dX7_punch_37 : decode cX7_punch 37 = .ok (.iload_n 2, 1) := by decide +kernel
theorem dX7_punch_38 : decode cX7_punch 38 = .ok (.iload_n 3, 1) := by decide +kernel
theorem dX7_punch_39 : decode cX7_punch 39 = .ok (.iadd, 1) := by decide +kernel
theorem dX7_punch_40 : decode cX7_punch 40 = .ok (.if_icmp .ge 42, 3) := by decide +kernel
theorem dX7_punch_43 : decode cX7_punch 43 = .ok (.iload 5, 2) := by decide +kernel
theorem dX7_punch_45 : decode cX7_punch 45 = .ok (.sipush 256, 3) := by decide +kernel
theorem dX7_punch_48 : decode cX7_punch 48 = .ok (.if_icmp .ge 34, 3) := by decide +kernel
theorem dX7_punch_51 : decode cX7_punch 51 = .ok (.iload 4, 2) := by decide +kernel
theorem dX7_punch_53 : decode cX7_punch 53 = .ok (.aload_n 0, 1) := by decide +kernel
theorem dX7_punch_54 : decode cX7_punch 54 = .ok (.sipush 256, 3) := by decide +kernel
theorem dX7_punch_57 : decode cX7_punch 57 = .ok (.iload_n 1, 1) := by decide +kernel
theorem dX7_punch_58 : decode cX7_punch 58 = .ok (.imul, 1) := by decide +kernel
theorem dX7_punch_59 : decode cX7_punch 59 = .ok (.iload 5, 2) := by decide +kernel
theorem dX7_punch_61 : decode cX7_punch 61 = .ok (.iadd, 1) := by decide +kernel
theorem dX7_punch_62 : decode cX7_punch 62 = .ok (.invokevirtual 199, 3) := by decide +kernel
theorem dX7_punch_65 : decode cX7_punch 65 = .ok (.ifCond .eq 7, 3) := by decide +kernel
theorem dX7_punch_68 : decode cX7_punch 68 = .ok (.iconst 1, 1) := by decide +kernel
theorem dX7_punch_69 : decode cX7_punch 69 = .ok (.goto 4, 3) := by decide +kernel
theorem dX7_punch_72 : decode cX7_punch 72 = .ok (.iconst 0, 1) := by decide +kernel
theorem dX7_punch_73 : decode cX7_punch 73 = .ok (.iadd, 1) := by decide +kernel
theorem dX7_punch_74 : decode cX7_punch 74 = .ok (.istore 4, 2) := by decide +kernel
theorem dX7_punch_76 : decode cX7_punch 76 = .ok (.iinc 5 1, 3) := by decide +kernel
theorem dX7_punch_79 : decode cX7_punch 79 = .ok (.goto (-44), 3) := by decide +kernel
theorem dX7_punch_82 : decode cX7_punch 82 = .ok (.iload 4, 2) := by decide +kernel
theorem dX7_punch_84 : decode cX7_punch 84 = .ok (.ireturn, 1) := by decide +kernel
theorem dX7_sync_0 : decode cX7_sync 0 = .ok (.iload_n 1, 1) := by decide +kernel
theorem dX7_sync_1 : decode cX7_sync 1 = .ok (.invokestatic 168, 3) := by decide +kernel
theorem dX7_sync_4 : decode cX7_sync 4 = .ok (.ifCond .ne 6, 3) := by decide +kernel
theorem dX7_sync_7 : decode cX7_sync 7 = .ok (.bipush (-2), 2) := by decide +kernel
theorem dX7_sync_9 : decode cX7_sync 9 = .ok (.ireturn, 1) := by decide +kernel
theorem dX7_sync_10 : decode cX7_sync 10 = .ok (.aload_n 0, 1) := by decide +kernel
theorem dX7_sync_11 : decode cX7_sync 11 = .ok (.iconst 0, 1) := by decide +kernel
theorem dX7_sync_12 : decode cX7_sync 12 = .ok (.putfield 89, 3) := by decide +kernel
theorem dX7_sync_15 : decode cX7_sync 15 = .ok (.iconst 0, 1) := by decide +kernel
theorem dX7_sync_16 : decode cX7_sync 16 = .ok (.istore_n 2, 1) := by decide +kernel
theorem dX7_sync_17 : decode cX7_sync 17 = .ok (.sipush 256, 3) := by decide +kernel
theorem dX7_sync_20 : decode cX7_sync 20 = .ok (.iload_n 1, 1) := by decide +kernel
theorem dX7_sync_21 : decode cX7_sync 21 = .ok (.imul, 1) := by decide +kernel
theorem dX7_sync_22 : decode cX7_sync 22 = .ok (.istore_n 3, 1) := by decide +kernel
theorem dX7_sync_23 : decode cX7_sync 23 = .ok (.iload_n 3, 1) := by decide +kernel
theorem dX7_sync_24 : decode cX7_sync 24 = .ok (.sipush 256, 3) := by decide +kernel
theorem dX7_sync_27 : decode cX7_sync 27 = .ok (.iload_n 1, 1) := by decide +kernel
theorem dX7_sync_28 : decode cX7_sync 28 = .ok (.imul, 1) := by decide +kernel
theorem dX7_sync_29 : decode cX7_sync 29 = .ok (.sipush 256, 3) := by decide +kernel
theorem dX7_sync_32 : decode cX7_sync 32 = .ok (.iadd, 1) := by decide +kernel
theorem dX7_sync_33 : decode cX7_sync 33 = .ok (.if_icmp .ge 33, 3) := by decide +kernel
theorem dX7_sync_36 : decode cX7_sync 36 = .ok (.iload_n 2, 1) := by decide +kernel
theorem dX7_sync_37 : decode cX7_sync 37 = .ok (.aload_n 0, 1) := by decide +kernel
theorem dX7_sync_38 : decode cX7_sync 38 = .ok (.iload_n 3, 1) := by decide +kernel
theorem dX7_sync_39 : decode cX7_sync 39 = .ok (.invokevirtual 146, 3) := by decide +kernel
theorem dX7_sync_42 : decode cX7_sync 42 = .ok (.ifCond .eq 15, 3) := by decide +kernel
theorem dX7_sync_45 : decode cX7_sync 45 = .ok (.aload_n 0, 1) := by decide +kernel
theorem dX7_sync_46 : decode cX7_sync 46 = .ok (.iload_n 3, 1) := by decide +kernel
theorem dX7_sync_47 : decode cX7_sync 47 = .ok (.invokevirtual 149, 3) := by decide +kernel
theorem dX7_sync_50 : decode cX7_sync 50 = .ok (.ifCond .eq 7, 3) := by decide +kernel
theorem dX7_sync_53 : decode cX7_sync 53 = .ok (.iconst 1, 1) := by decide +kernel
theorem dX7_sync_54 : decode cX7_sync 54 = .ok (.goto 4, 3) := by decide +kernel
theorem dX7_sync_57 : decode cX7_sync 57 = .ok (.iconst 0, 1) := by decide +kernel
theorem dX7_sync_58 : decode cX7_sync 58 = .ok (.iadd, 1) := by decide +kernel
theorem dX7_sync_59 : decode cX7_sync 59 = .ok (.istore_n 2, 1) := by decide +kernel
theorem dX7_sync_60 : decode cX7_sync 60 = .ok (.iinc 3 1, 3) := by decide +kernel
theorem dX7_sync_63 : decode cX7_sync 63 = .ok (.goto (-40), 3) := by decide +kernel
theorem dX7_sync_66 : decode cX7_sync 66 = .ok (.aload_n 0, 1) := by decide +kernel
theorem dX7_sync_67 : decode cX7_sync 67 = .ok (.getfield 19, 3) := by decide +kernel
theorem dX7_sync_70 : decode cX7_sync 70 = .ok (.iload_n 1, 1) := by decide +kernel
theorem dX7_sync_71 : decode cX7_sync 71 = .ok (.iaload, 1) := by decide +kernel
theorem dX7_sync_72 : decode cX7_sync 72 = .ok (.istore_n 3, 1) := by decide +kernel
theorem dX7_sync_73 : decode cX7_sync 73 = .ok (.aload_n 0, 1) := by decide +kernel
theorem dX7_sync_74 : decode cX7_sync 74 = .ok (.getfield 19, 3) := by decide +kernel
theorem dX7_sync_77 : decode cX7_sync 77 = .ok (.iload_n 1, 1) := by decide +kernel
theorem dX7_sync_78 : decode cX7_sync 78 = .ok (.iconst 0, 1) := by decide +kernel
theorem dX7_sync_79 : decode cX7_sync 79 = .ok (.iastore, 1) := by decide +kernel
theorem dX7_sync_80 : decode cX7_sync 80 = .ok (.iload_n 3, 1) := by decide +kernel
theorem dX7_sync_81 : decode cX7_sync 81 = .ok (.ifCond .ne 7, 3) := by decide +kernel
theorem dX7_sync_84 : decode cX7_sync 84 = .ok (.iload_n 2, 1) := by decide +kernel
theorem dX7_sync_85 : decode cX7_sync 85 = .ok (.goto 4, 3) := by decide +kernel
theorem dX7_sync_88 : decode cX7_sync 88 = .ok (.iload_n 3, 1) := by decide +kernel
theorem dX7_sync_89 : decode cX7_sync 89 = .ok (.ireturn, 1) := by decide +kernel
theorem dX7_syncAll_0 : decode cX7_syncAll 0 = .ok (.aload_n 0, 1) := by decide +kernel
theorem dX7_syncAll_1 : decode cX7_syncAll 1 = .ok (.iconst 0, 1) := by decide +kernel
theorem dX7_syncAll_2 : decode cX7_syncAll 2 = .ok (.putfield 89, 3) := by decide +kernel
theorem dX7_syncAll_5 : decode cX7_syncAll 5 = .ok (.iconst 0, 1) := by decide +kernel
theorem dX7_syncAll_6 : decode cX7_syncAll 6 = .ok (.istore_n 1, 1) := by decide +kernel
theorem dX7_syncAll_7 : decode cX7_syncAll 7 = .ok (.iload_n 1, 1) := by decide +kernel
theorem dX7_syncAll_8 : decode cX7_syncAll 8 = .ok (.sipush 3072, 3) := by decide +kernel
theorem dX7_syncAll_11 : decode cX7_syncAll 11 = .ok (.if_icmp .ge 31, 3) := by decide +kernel
theorem dX7_syncAll_14 : decode cX7_syncAll 14 = .ok (.aload_n 0, 1) := by decide +kernel
theorem dX7_syncAll_15 : decode cX7_syncAll 15 = .ok (.iload_n 1, 1) := by decide +kernel
theorem dX7_syncAll_16 : decode cX7_syncAll 16 = .ok (.invokevirtual 146, 3) := by decide +kernel
theorem dX7_syncAll_19 : decode cX7_syncAll 19 = .ok (.ifCond .eq 15, 3) := by decide +kernel
theorem dX7_syncAll_22 : decode cX7_syncAll 22 = .ok (.aload_n 0, 1) := by decide +kernel
theorem dX7_syncAll_23 : decode cX7_syncAll 23 = .ok (.iload_n 1, 1) := by decide +kernel
theorem dX7_syncAll_24 : decode cX7_syncAll 24 = .ok (.invokevirtual 136, 3) := by decide +kernel
theorem dX7_syncAll_27 : decode cX7_syncAll 27 = .ok (.ifCond .eq 7, 3) := by decide +kernel
theorem dX7_syncAll_30 : decode cX7_syncAll 30 = .ok (.iconst 1, 1) := by decide +kernel
theorem dX7_syncAll_31 : decode cX7_syncAll 31 = .ok (.goto 4, 3) := by decide +kernel
theorem dX7_syncAll_34 : decode cX7_syncAll 34 = .ok (.iconst 0, 1) := by decide +kernel
theorem dX7_syncAll_35 : decode cX7_syncAll 35 = .ok (.istore_n 2, 1) := by decide +kernel
theorem dX7_syncAll_36 : decode cX7_syncAll 36 = .ok (.iinc 1 1, 3) := by decide +kernel
theorem dX7_syncAll_39 : decode cX7_syncAll 39 = .ok (.goto (-32), 3) := by decide +kernel
theorem dX7_syncAll_42 : decode cX7_syncAll 42 = .ok (.iconst 0, 1) := by decide +kernel
theorem dX7_syncAll_43 : decode cX7_syncAll 43 = .ok (.istore_n 1, 1) := by decide +kernel
theorem dX7_syncAll_44 : decode cX7_syncAll 44 = .ok (.iconst 0, 1) := by decide +kernel
theorem dX7_syncAll_45 : decode cX7_syncAll 45 = .ok (.istore_n 2, 1) := by decide +kernel
theorem dX7_syncAll_46 : decode cX7_syncAll 46 = .ok (.iload_n 2, 1) := by decide +kernel
theorem dX7_syncAll_47 : decode cX7_syncAll 47 = .ok (.aload_n 0, 1) := by decide +kernel
theorem dX7_syncAll_48 : decode cX7_syncAll 48 = .ok (.getfield 86, 3) := by decide +kernel
theorem dX7_syncAll_51 : decode cX7_syncAll 51 = .ok (.if_icmp .ge 58, 3) := by decide +kernel
theorem dX7_syncAll_54 : decode cX7_syncAll 54 = .ok (.iconst 0, 1) := by decide +kernel
theorem dX7_syncAll_55 : decode cX7_syncAll 55 = .ok (.istore_n 3, 1) := by decide +kernel
theorem dX7_syncAll_56 : decode cX7_syncAll 56 = .ok (.iload_n 3, 1) := by decide +kernel
theorem dX7_syncAll_57 : decode cX7_syncAll 57 = .ok (.sipush 3072, 3) := by decide +kernel
theorem dX7_syncAll_60 : decode cX7_syncAll 60 = .ok (.if_icmp .ge 43, 3) := by decide +kernel
theorem dX7_syncAll_63 : decode cX7_syncAll 63 = .ok (.aload_n 0, 1) := by decide +kernel
theorem dX7_syncAll_64 : decode cX7_syncAll 64 = .ok (.getfield 25, 3) := by decide +kernel
theorem dX7_syncAll_67 : decode cX7_syncAll 67 = .ok (.iload_n 3, 1) := by decide +kernel
theorem dX7_syncAll_68 : decode cX7_syncAll 68 = .ok (.iaload, 1) := by decide +kernel
theorem dX7_syncAll_69 : decode cX7_syncAll 69 = .ok (.iload_n 2, 1) := by decide +kernel
theorem dX7_syncAll_70 : decode cX7_syncAll 70 = .ok (.if_icmp .ne 27, 3) := by decide +kernel
theorem dX7_syncAll_73 : decode cX7_syncAll 73 = .ok (.aload_n 0, 1) := by decide +kernel
theorem dX7_syncAll_74 : decode cX7_syncAll 74 = .ok (.iload_n 3, 1) := by decide +kernel
theorem dX7_syncAll_75 : decode cX7_syncAll 75 = .ok (.invokevirtual 146, 3) := by decide +kernel
theorem dX7_syncAll_78 : decode cX7_syncAll 78 = .ok (.ifCond .eq 19, 3) := by decide +kernel
theorem dX7_syncAll_81 : decode cX7_syncAll 81 = .ok (.iload_n 1, 1) := by decide +kernel
theorem dX7_syncAll_82 : decode cX7_syncAll 82 = .ok (.aload_n 0, 1) := by decide +kernel
theorem dX7_syncAll_83 : decode cX7_syncAll 83 = .ok (.iload_n 3, 1) := by decide +kernel
theorem dX7_syncAll_84 : decode cX7_syncAll 84 = .ok (.invokevirtual 149, 3) := by decide +kernel
theorem dX7_syncAll_87 : decode cX7_syncAll 87 = .ok (.ifCond .eq 7, 3) := by decide +kernel
theorem dX7_syncAll_90 : decode cX7_syncAll 90 = .ok (.iconst 1, 1) := by decide +kernel
theorem dX7_syncAll_91 : decode cX7_syncAll 91 = .ok (.goto 4, 3) := by decide +kernel
theorem dX7_syncAll_94 : decode cX7_syncAll 94 = .ok (.iconst 0, 1) := by decide +kernel
theorem dX7_syncAll_95 : decode cX7_syncAll 95 = .ok (.iadd, 1) := by decide +kernel
theorem dX7_syncAll_96 : decode cX7_syncAll 96 = .ok (.istore_n 1, 1) := by decide +kernel
theorem dX7_syncAll_97 : decode cX7_syncAll 97 = .ok (.iinc 3 1, 3) := by decide +kernel
theorem dX7_syncAll_100 : decode cX7_syncAll 100 = .ok (.goto (-44), 3) := by decide +kernel
theorem dX7_syncAll_103 : decode cX7_syncAll 103 = .ok (.iinc 2 1, 3) := by decide +kernel
theorem dX7_syncAll_106 : decode cX7_syncAll 106 = .ok (.goto (-60), 3) := by decide +kernel
theorem dX7_syncAll_109 : decode cX7_syncAll 109 = .ok (.iload_n 1, 1) := by decide +kernel
theorem dX7_syncAll_110 : decode cX7_syncAll 110 = .ok (.ireturn, 1) := by decide +kernel
theorem dX7_tick_0 : decode cX7_tick 0 = .ok (.iload_n 1, 1) := by decide +kernel
theorem dX7_tick_1 : decode cX7_tick 1 = .ok (.ifCond .lt 10, 3) := by decide +kernel
theorem dX7_tick_4 : decode cX7_tick 4 = .ok (.iload_n 1, 1) := by decide +kernel
theorem dX7_tick_5 : decode cX7_tick 5 = .ok (.sipush 1000, 3) := by decide +kernel
theorem dX7_tick_8 : decode cX7_tick 8 = .ok (.if_icmp .le 6, 3) := by decide +kernel
theorem dX7_tick_11 : decode cX7_tick 11 = .ok (.bipush (-2), 2) := by decide +kernel
theorem dX7_tick_13 : decode cX7_tick 13 = .ok (.ireturn, 1) := by decide +kernel
theorem dX7_tick_14 : decode cX7_tick 14 = .ok (.aload_n 0, 1) := by decide +kernel
theorem dX7_tick_15 : decode cX7_tick 15 = .ok (.iconst 0, 1) := by decide +kernel
theorem dX7_tick_16 : decode cX7_tick 16 = .ok (.putfield 89, 3) := by decide +kernel
theorem dX7_tick_19 : decode cX7_tick 19 = .ok (.iconst 0, 1) := by decide +kernel
theorem dX7_tick_20 : decode cX7_tick 20 = .ok (.istore_n 2, 1) := by decide +kernel
theorem dX7_tick_21 : decode cX7_tick 21 = .ok (.iconst 0, 1) := by decide +kernel
theorem dX7_tick_22 : decode cX7_tick 22 = .ok (.istore_n 3, 1) := by decide +kernel
theorem dX7_tick_23 : decode cX7_tick 23 = .ok (.iload_n 3, 1) := by decide +kernel
theorem dX7_tick_24 : decode cX7_tick 24 = .ok (.iload_n 1, 1) := by decide +kernel
theorem dX7_tick_25 : decode cX7_tick 25 = .ok (.if_icmp .ge 81, 3) := by decide +kernel
theorem dX7_tick_28 : decode cX7_tick 28 = .ok (.aload_n 0, 1) := by decide +kernel
theorem dX7_tick_29 : decode cX7_tick 29 = .ok (.dup, 1) := by decide +kernel
theorem dX7_tick_30 : decode cX7_tick 30 = .ok (.getfield 186, 3) := by decide +kernel
theorem dX7_tick_33 : decode cX7_tick 33 = .ok (.iconst 1, 1) := by decide +kernel
theorem dX7_tick_34 : decode cX7_tick 34 = .ok (.iadd, 1) := by decide +kernel
theorem dX7_tick_35 : decode cX7_tick 35 = .ok (.putfield 186, 3) := by decide +kernel
theorem dX7_tick_38 : decode cX7_tick 38 = .ok (.aload_n 0, 1) := by decide +kernel
theorem dX7_tick_39 : decode cX7_tick 39 = .ok (.invokevirtual 183, 3) := by decide +kernel
theorem dX7_tick_42 : decode cX7_tick 42 = .ok (.iconst 0, 1) := by decide +kernel
theorem dX7_tick_43 : decode cX7_tick 43 = .ok (.istore 4, 2) := by decide +kernel
theorem dX7_tick_45 : decode cX7_tick 45 = .ok (.iload 4, 2) := by decide +kernel
theorem dX7_tick_47 : decode cX7_tick 47 = .ok (.iconst 4, 1) := by decide +kernel
theorem dX7_tick_48 : decode cX7_tick 48 = .ok (.if_icmp .ge 52, 3) := by decide +kernel
theorem dX7_tick_51 : decode cX7_tick 51 = .ok (.aload_n 0, 1) := by decide +kernel
theorem dX7_tick_52 : decode cX7_tick 52 = .ok (.aload_n 0, 1) := by decide +kernel
theorem dX7_tick_53 : decode cX7_tick 53 = .ok (.getfield 186, 3) := by decide +kernel
theorem dX7_tick_56 : decode cX7_tick 56 = .ok (.iconst 5, 1) := by decide +kernel
theorem dX7_tick_57 : decode cX7_tick 57 = .ok (.isub, 1) := by decide +kernel
theorem dX7_tick_58 : decode cX7_tick 58 = .ok (.invokevirtual 189, 3) := by decide +kernel
theorem dX7_tick_61 : decode cX7_tick 61 = .ok (.istore 5, 2) := by decide +kernel
theorem dX7_tick_63 : decode cX7_tick 63 = .ok (.iload 5, 2) := by decide +kernel
theorem dX7_tick_65 : decode cX7_tick 65 = .ok (.iconst (-1), 1) := by decide +kernel
theorem dX7_tick_66 : decode cX7_tick 66 = .ok (.if_icmp .eq 28, 3) := by decide +kernel
theorem dX7_tick_69 : decode cX7_tick 69 = .ok (.iload_n 2, 1) := by decide +kernel
theorem dX7_tick_70 : decode cX7_tick 70 = .ok (.aload_n 0, 1) := by decide +kernel
theorem dX7_tick_71 : decode cX7_tick 71 = .ok (.iload 5, 2) := by decide +kernel
theorem dX7_tick_73 : decode cX7_tick 73 = .ok (.invokevirtual 149, 3) := by decide +kernel
theorem dX7_tick_76 : decode cX7_tick 76 = .ok (.ifCond .eq 7, 3) := by decide +kernel
theorem dX7_tick_79 : decode cX7_tick 79 = .ok (.iconst 1, 1) := by decide +kernel
theorem dX7_tick_80 : decode cX7_tick 80 = .ok (.goto 4, 3) := by decide +kernel
theorem dX7_tick_83 : decode cX7_tick 83 = .ok (.iconst 0, 1) := by decide +kernel
theorem dX7_tick_84 : decode cX7_tick 84 = .ok (.iadd, 1) := by decide +kernel
theorem dX7_tick_85 : decode cX7_tick 85 = .ok (.istore_n 2, 1) := by decide +kernel
theorem dX7_tick_86 : decode cX7_tick 86 = .ok (.aload_n 0, 1) := by decide +kernel
theorem dX7_tick_87 : decode cX7_tick 87 = .ok (.getfield 79, 3) := by decide +kernel
theorem dX7_tick_90 : decode cX7_tick 90 = .ok (.iload 5, 2) := by decide +kernel
theorem dX7_tick_92 : decode cX7_tick 92 = .ok (.iconst 1, 1) := by decide +kernel
theorem dX7_tick_93 : decode cX7_tick 93 = .ok (.bastore, 1) := by decide +kernel
theorem dX7_tick_94 : decode cX7_tick 94 = .ok (.iinc 4 1, 3) := by decide +kernel
theorem dX7_tick_97 : decode cX7_tick 97 = .ok (.goto (-52), 3) := by decide +kernel
theorem dX7_tick_100 : decode cX7_tick 100 = .ok (.iinc 3 1, 3) := by decide +kernel
theorem dX7_tick_103 : decode cX7_tick 103 = .ok (.goto (-80), 3) := by decide +kernel
theorem dX7_tick_106 : decode cX7_tick 106 = .ok (.iload_n 2, 1) := by decide +kernel
theorem dX7_tick_107 : decode cX7_tick 107 = .ok (.ireturn, 1) := by decide +kernel
theorem dX7_drop_0 : decode cX7_drop 0 = .ok (.iconst 0, 1) := by decide +kernel
theorem dX7_drop_1 : decode cX7_drop 1 = .ok (.istore_n 1, 1) := by decide +kernel
theorem dX7_drop_2 : decode cX7_drop 2 = .ok (.iconst 0, 1) := by decide +kernel
theorem dX7_drop_3 : decode cX7_drop 3 = .ok (.istore_n 2, 1) := by decide +kernel
theorem dX7_drop_4 : decode cX7_drop 4 = .ok (.iload_n 2, 1) := by decide +kernel
theorem dX7_drop_5 : decode cX7_drop 5 = .ok (.sipush 3072, 3) := by decide +kernel
theorem dX7_drop_8 : decode cX7_drop 8 = .ok (.if_icmp .ge 42, 3) := by decide +kernel
theorem dX7_drop_11 : decode cX7_drop 11 = .ok (.aload_n 0, 1) := by decide +kernel
theorem dX7_drop_12 : decode cX7_drop 12 = .ok (.iload_n 2, 1) := by decide +kernel
theorem dX7_drop_13 : decode cX7_drop 13 = .ok (.invokevirtual 159, 3) := by decide +kernel
theorem dX7_drop_16 : decode cX7_drop 16 = .ok (.ifCond .eq 28, 3) := by decide +kernel
theorem dX7_drop_19 : decode cX7_drop 19 = .ok (.aload_n 0, 1) := by decide +kernel
theorem dX7_drop_20 : decode cX7_drop 20 = .ok (.iload_n 2, 1) := by decide +kernel
theorem dX7_drop_21 : decode cX7_drop 21 = .ok (.invokevirtual 146, 3) := by decide +kernel
theorem dX7_drop_24 : decode cX7_drop 24 = .ok (.ifCond .ne 20, 3) := by decide +kernel
theorem dX7_drop_27 : decode cX7_drop 27 = .ok (.aload_n 0, 1) := by decide +kernel
theorem dX7_drop_28 : decode cX7_drop 28 = .ok (.getfield 38, 3) := by decide +kernel
theorem dX7_drop_31 : decode cX7_drop 31 = .ok (.iload_n 2, 1) := by decide +kernel
theorem dX7_drop_32 : decode cX7_drop 32 = .ok (.baload, 1) := by decide +kernel
theorem dX7_drop_33 : decode cX7_drop 33 = .ok (.ifCond .ne 11, 3) := by decide +kernel
theorem dX7_drop_36 : decode cX7_drop 36 = .ok (.aload_n 0, 1) := by decide +kernel
theorem dX7_drop_37 : decode cX7_drop 37 = .ok (.iload_n 2, 1) := by decide +kernel
theorem dX7_drop_38 : decode cX7_drop 38 = .ok (.invokevirtual 152, 3) := by decide +kernel
theorem dX7_drop_41 : decode cX7_drop 41 = .ok (.iinc 1 1, 3) := by decide +kernel
theorem dX7_drop_44 : decode cX7_drop 44 = .ok (.iinc 2 1, 3) := by decide +kernel
theorem dX7_drop_47 : decode cX7_drop 47 = .ok (.goto (-43), 3) := by decide +kernel
theorem dX7_drop_50 : decode cX7_drop 50 = .ok (.iload_n 1, 1) := by decide +kernel
theorem dX7_drop_51 : decode cX7_drop 51 = .ok (.ireturn, 1) := by decide +kernel
theorem dX7_crash_0 : decode cX7_crash 0 = .ok (.aload_n 0, 1) := by decide +kernel
theorem dX7_crash_1 : decode cX7_crash 1 = .ok (.invokevirtual 180, 3) := by decide +kernel
theorem dX7_crash_4 : decode cX7_crash 4 = .ok (.istore_n 1, 1) := by decide +kernel
theorem dX7_crash_5 : decode cX7_crash 5 = .ok (.iconst 0, 1) := by decide +kernel
theorem dX7_crash_6 : decode cX7_crash 6 = .ok (.istore_n 2, 1) := by decide +kernel
theorem dX7_crash_7 : decode cX7_crash 7 = .ok (.iload_n 2, 1) := by decide +kernel
theorem dX7_crash_8 : decode cX7_crash 8 = .ok (.sipush 3072, 3) := by decide +kernel
theorem dX7_crash_11 : decode cX7_crash 11 = .ok (.if_icmp .ge 27, 3) := by decide +kernel
theorem dX7_crash_14 : decode cX7_crash 14 = .ok (.aload_n 0, 1) := by decide +kernel
theorem dX7_crash_15 : decode cX7_crash 15 = .ok (.iload_n 2, 1) := by decide +kernel
theorem dX7_crash_16 : decode cX7_crash 16 = .ok (.invokevirtual 159, 3) := by decide +kernel
theorem dX7_crash_19 : decode cX7_crash 19 = .ok (.ifCond .eq 8, 3) := by decide +kernel
theorem dX7_crash_22 : decode cX7_crash 22 = .ok (.aload_n 0, 1) := by decide +kernel
theorem dX7_crash_23 : decode cX7_crash 23 = .ok (.iload_n 2, 1) := by decide +kernel
theorem dX7_crash_24 : decode cX7_crash 24 = .ok (.invokevirtual 123, 3) := by decide +kernel
theorem dX7_crash_27 : decode cX7_crash 27 = .ok (.aload_n 0, 1) := by decide +kernel
theorem dX7_crash_28 : decode cX7_crash 28 = .ok (.iload_n 2, 1) := by decide +kernel
theorem dX7_crash_29 : decode cX7_crash 29 = .ok (.invokevirtual 129, 3) := by decide +kernel
theorem dX7_crash_32 : decode cX7_crash 32 = .ok (.iinc 2 1, 3) := by decide +kernel
theorem dX7_crash_35 : decode cX7_crash 35 = .ok (.goto (-28), 3) := by decide +kernel
theorem dX7_crash_38 : decode cX7_crash 38 = .ok (.iconst 0, 1) := by decide +kernel
theorem dX7_crash_39 : decode cX7_crash 39 = .ok (.istore_n 2, 1) := by decide +kernel
theorem dX7_crash_40 : decode cX7_crash 40 = .ok (.iload_n 2, 1) := by decide +kernel
theorem dX7_crash_41 : decode cX7_crash 41 = .ok (.bipush 12, 2) := by decide +kernel
theorem dX7_crash_43 : decode cX7_crash 43 = .ok (.if_icmp .ge 30, 3) := by decide +kernel
theorem dX7_crash_46 : decode cX7_crash 46 = .ok (.aload_n 0, 1) := by decide +kernel
theorem dX7_crash_47 : decode cX7_crash 47 = .ok (.getfield 13, 3) := by decide +kernel
theorem dX7_crash_50 : decode cX7_crash 50 = .ok (.iload_n 2, 1) := by decide +kernel
theorem dX7_crash_51 : decode cX7_crash 51 = .ok (.iconst 1, 1) := by decide +kernel
theorem dX7_crash_52 : decode cX7_crash 52 = .ok (.iastore, 1) := by decide +kernel
theorem dX7_crash_53 : decode cX7_crash 53 = .ok (.aload_n 0, 1) := by decide +kernel
theorem dX7_crash_54 : decode cX7_crash 54 = .ok (.getfield 16, 3) := by decide +kernel
theorem dX7_crash_57 : decode cX7_crash 57 = .ok (.iload_n 2, 1) := by decide +kernel
theorem dX7_crash_58 : decode cX7_crash 58 = .ok (.iconst 0, 1) := by decide +kernel
theorem dX7_crash_59 : decode cX7_crash 59 = .ok (.iastore, 1) := by decide +kernel
theorem dX7_crash_60 : decode cX7_crash 60 = .ok (.aload_n 0, 1) := by decide +kernel
theorem dX7_crash_61 : decode cX7_crash 61 = .ok (.getfield 19, 3) := by decide +kernel
theorem dX7_crash_64 : decode cX7_crash 64 = .ok (.iload_n 2, 1) := by decide +kernel
theorem dX7_crash_65 : decode cX7_crash 65 = .ok (.iconst 0, 1) := by decide +kernel
theorem dX7_crash_66 : decode cX7_crash 66 = .ok (.iastore, 1) := by decide +kernel
theorem dX7_crash_67 : decode cX7_crash 67 = .ok (.iinc 2 1, 3) := by decide +kernel
theorem dX7_crash_70 : decode cX7_crash 70 = .ok (.goto (-30), 3) := by decide +kernel
theorem dX7_crash_73 : decode cX7_crash 73 = .ok (.aload_n 0, 1) := by decide +kernel
theorem dX7_crash_74 : decode cX7_crash 74 = .ok (.iconst 0, 1) := by decide +kernel
theorem dX7_crash_75 : decode cX7_crash 75 = .ok (.putfield 174, 3) := by decide +kernel
theorem dX7_crash_78 : decode cX7_crash 78 = .ok (.iload_n 1, 1) := by decide +kernel
theorem dX7_crash_79 : decode cX7_crash 79 = .ok (.ireturn, 1) := by decide +kernel
theorem dX7_fail_0 : decode cX7_fail 0 = .ok (.iload_n 1, 1) := by decide +kernel
theorem dX7_fail_1 : decode cX7_fail 1 = .ok (.ifCond .lt 11, 3) := by decide +kernel
theorem dX7_fail_4 : decode cX7_fail 4 = .ok (.iload_n 1, 1) := by decide +kernel
theorem dX7_fail_5 : decode cX7_fail 5 = .ok (.aload_n 0, 1) := by decide +kernel
theorem dX7_fail_6 : decode cX7_fail 6 = .ok (.getfield 86, 3) := by decide +kernel
theorem dX7_fail_9 : decode cX7_fail 9 = .ok (.if_icmp .lt 5, 3) := by decide +kernel
theorem dX7_fail_12 : decode cX7_fail 12 = .ok (.iconst 0, 1) := by decide +kernel
theorem dX7_fail_13 : decode cX7_fail 13 = .ok (.ireturn, 1) := by decide +kernel
theorem dX7_fail_14 : decode cX7_fail 14 = .ok (.aload_n 0, 1) := by decide +kernel
theorem dX7_fail_15 : decode cX7_fail 15 = .ok (.getfield 64, 3) := by decide +kernel
theorem dX7_fail_18 : decode cX7_fail 18 = .ok (.iload_n 1, 1) := by decide +kernel
theorem dX7_fail_19 : decode cX7_fail 19 = .ok (.baload, 1) := by decide +kernel
theorem dX7_fail_20 : decode cX7_fail 20 = .ok (.iload_n 2, 1) := by decide +kernel
theorem dX7_fail_21 : decode cX7_fail 21 = .ok (.if_icmp .eq 7, 3) := by decide +kernel
theorem dX7_fail_24 : decode cX7_fail 24 = .ok (.iconst 1, 1) := by decide +kernel
theorem dX7_fail_25 : decode cX7_fail 25 = .ok (.goto 4, 3) := by decide +kernel
theorem dX7_fail_28 : decode cX7_fail 28 = .ok (.iconst 0, 1) := by decide +kernel
theorem dX7_fail_29 : decode cX7_fail 29 = .ok (.istore_n 3, 1) := by decide +kernel
theorem dX7_fail_30 : decode cX7_fail 30 = .ok (.aload_n 0, 1) := by decide +kernel
theorem dX7_fail_31 : decode cX7_fail 31 = .ok (.getfield 64, 3) := by decide +kernel
theorem dX7_fail_34 : decode cX7_fail 34 = .ok (.iload_n 1, 1) := by decide +kernel
theorem dX7_fail_35 : decode cX7_fail 35 = .ok (.iload_n 2, 1) := by decide +kernel
theorem dX7_fail_36 : decode cX7_fail 36 = .ok (.bastore, 1) := by decide +kernel
theorem dX7_fail_37 : decode cX7_fail 37 = .ok (.iload_n 3, 1) := by decide +kernel
theorem dX7_fail_38 : decode cX7_fail 38 = .ok (.ireturn, 1) := by decide +kernel
theorem dX7_pins_0 : decode cX7_pins 0 = .ok (.iconst 0, 1) := by decide +kernel
theorem dX7_pins_1 : decode cX7_pins 1 = .ok (.istore_n 1, 1) := by decide +kernel
theorem dX7_pins_2 : decode cX7_pins 2 = .ok (.iconst 0, 1) := by decide +kernel
theorem dX7_pins_3 : decode cX7_pins 3 = .ok (.istore_n 2, 1) := by decide +kernel
theorem dX7_pins_4 : decode cX7_pins 4 = .ok (.iload_n 2, 1) := by decide +kernel
theorem dX7_pins_5 : decode cX7_pins 5 = .ok (.sipush 3072, 3) := by decide +kernel
theorem dX7_pins_8 : decode cX7_pins 8 = .ok (.if_icmp .ge 26, 3) := by decide +kernel
theorem dX7_pins_11 : decode cX7_pins 11 = .ok (.iload_n 1, 1) := by decide +kernel
theorem dX7_pins_12 : decode cX7_pins 12 = .ok (.aload_n 0, 1) := by decide +kernel
theorem dX7_pins_13 : decode cX7_pins 13 = .ok (.getfield 38, 3) := by decide +kernel
theorem dX7_pins_16 : decode cX7_pins 16 = .ok (.iload_n 2, 1) := by decide +kernel
theorem dX7_pins_17 : decode cX7_pins 17 = .ok (.baload, 1) := by decide +kernel
theorem dX7_pins_18 : decode cX7_pins 18 = .ok (.ifCond .eq 7, 3) := by decide +kernel
theorem dX7_pins_21 : decode cX7_pins 21 = .ok (.iconst 1, 1) := by decide +kernel
theorem dX7_pins_22 : decode cX7_pins 22 = .ok (.goto 4, 3) := by decide +kernel
theorem dX7_pins_25 : decode cX7_pins 25 = .ok (.iconst 0, 1) := by decide +kernel
theorem dX7_pins_26 : decode cX7_pins 26 = .ok (.iadd, 1) := by decide +kernel
theorem dX7_pins_27 : decode cX7_pins 27 = .ok (.istore_n 1, 1) := by decide +kernel
theorem dX7_pins_28 : decode cX7_pins 28 = .ok (.iinc 2 1, 3) := by decide +kernel
theorem dX7_pins_31 : decode cX7_pins 31 = .ok (.goto (-27), 3) := by decide +kernel
theorem dX7_pins_34 : decode cX7_pins 34 = .ok (.iload_n 1, 1) := by decide +kernel
theorem dX7_pins_35 : decode cX7_pins 35 = .ok (.ireturn, 1) := by decide +kernel
theorem dX7_pin_0 : decode cX7_pin 0 = .ok (.iload_n 1, 1) := by decide +kernel
theorem dX7_pin_1 : decode cX7_pin 1 = .ok (.invokestatic 168, 3) := by decide +kernel
theorem dX7_pin_4 : decode cX7_pin 4 = .ok (.ifCond .eq 10, 3) := by decide +kernel
theorem dX7_pin_7 : decode cX7_pin 7 = .ok (.iload_n 2, 1) := by decide +kernel
theorem dX7_pin_8 : decode cX7_pin 8 = .ok (.invokestatic 202, 3) := by decide +kernel
theorem dX7_pin_11 : decode cX7_pin 11 = .ok (.ifCond .ne 5, 3) := by decide +kernel
theorem dX7_pin_14 : decode cX7_pin 14 = .ok (.iconst 0, 1) := by decide +kernel
theorem dX7_pin_15 : decode cX7_pin 15 = .ok (.ireturn, 1) := by decide +kernel
theorem dX7_pin_16 : decode cX7_pin 16 = .ok (.sipush 256, 3) := by decide +kernel
theorem dX7_pin_19 : decode cX7_pin 19 = .ok (.iload_n 1, 1) := by decide +kernel
theorem dX7_pin_20 : decode cX7_pin 20 = .ok (.imul, 1) := by decide +kernel
theorem dX7_pin_21 : decode cX7_pin 21 = .ok (.iload_n 2, 1) := by decide +kernel
theorem dX7_pin_22 : decode cX7_pin 22 = .ok (.iadd, 1) := by decide +kernel
theorem dX7_pin_23 : decode cX7_pin 23 = .ok (.istore 4, 2) := by decide +kernel
theorem dX7_pin_25 : decode cX7_pin 25 = .ok (.aload_n 0, 1) := by decide +kernel
theorem dX7_pin_26 : decode cX7_pin 26 = .ok (.getfield 38, 3) := by decide +kernel
theorem dX7_pin_29 : decode cX7_pin 29 = .ok (.iload 4, 2) := by decide +kernel
theorem dX7_pin_31 : decode cX7_pin 31 = .ok (.baload, 1) := by decide +kernel
theorem dX7_pin_32 : decode cX7_pin 32 = .ok (.istore 5, 2) := by decide +kernel
theorem dX7_pin_34 : decode cX7_pin 34 = .ok (.iload_n 3, 1) := by decide +kernel
theorem dX7_pin_35 : decode cX7_pin 35 = .ok (.ifCond .ne 14, 3) := by decide +kernel
theorem dX7_pin_38 : decode cX7_pin 38 = .ok (.aload_n 0, 1) := by decide +kernel
theorem dX7_pin_39 : decode cX7_pin 39 = .ok (.getfield 38, 3) := by decide +kernel
theorem dX7_pin_42 : decode cX7_pin 42 = .ok (.iload 4, 2) := by decide +kernel
theorem dX7_pin_44 : decode cX7_pin 44 = .ok (.iconst 0, 1) := by decide +kernel
theorem dX7_pin_45 : decode cX7_pin 45 = .ok (.bastore, 1) := by decide +kernel
theorem dX7_pin_46 : decode cX7_pin 46 = .ok (.iload 5, 2) := by decide +kernel
theorem dX7_pin_48 : decode cX7_pin 48 = .ok (.ireturn, 1) := by decide +kernel
theorem dX7_pin_49 : decode cX7_pin 49 = .ok (.bipush 64, 2) := by decide +kernel
theorem dX7_pin_51 : decode cX7_pin 51 = .ok (.iload_n 2, 1) := by decide +kernel
theorem dX7_pin_52 : decode cX7_pin 52 = .ok (.imul, 1) := by decide +kernel
theorem dX7_pin_53 : decode cX7_pin 53 = .ok (.aload_n 0, 1) := by decide +kernel
theorem dX7_pin_54 : decode cX7_pin 54 = .ok (.getfield 7, 3) := by decide +kernel
theorem dX7_pin_57 : decode cX7_pin 57 = .ok (.iload_n 1, 1) := by decide +kernel
theorem dX7_pin_58 : decode cX7_pin 58 = .ok (.iaload, 1) := by decide +kernel
theorem dX7_pin_59 : decode cX7_pin 59 = .ok (.if_icmp .ge 21, 3) := by decide +kernel
theorem dX7_pin_62 : decode cX7_pin 62 = .ok (.iload 5, 2) := by decide +kernel
theorem dX7_pin_64 : decode cX7_pin 64 = .ok (.ifCond .ne 18, 3) := by decide +kernel
theorem dX7_pin_67 : decode cX7_pin 67 = .ok (.aload_n 0, 1) := by decide +kernel
theorem dX7_pin_68 : decode cX7_pin 68 = .ok (.invokevirtual 205, 3) := by decide +kernel
theorem dX7_pin_71 : decode cX7_pin 71 = .ok (.aload_n 0, 1) := by decide +kernel
theorem dX7_pin_72 : decode cX7_pin 72 = .ok (.getfield 82, 3) := by decide +kernel
theorem dX7_pin_75 : decode cX7_pin 75 = .ok (.iconst 2, 1) := by decide +kernel
theorem dX7_pin_76 : decode cX7_pin 76 = .ok (.idiv, 1) := by decide +kernel
theorem dX7_pin_77 : decode cX7_pin 77 = .ok (.if_icmp .lt 5, 3) := by decide +kernel
theorem dX7_pin_80 : decode cX7_pin 80 = .ok (.iconst 0, 1) := by decide +kernel
theorem dX7_pin_81 : decode cX7_pin 81 = .ok (.ireturn, 1) := by decide +kernel
theorem dX7_pin_82 : decode cX7_pin 82 = .ok (.aload_n 0, 1) := by decide +kernel
theorem dX7_pin_83 : decode cX7_pin 83 = .ok (.iconst 0, 1) := by decide +kernel
theorem dX7_pin_84 : decode cX7_pin 84 = .ok (.putfield 89, 3) := by decide +kernel
theorem dX7_pin_87 : decode cX7_pin 87 = .ok (.aload_n 0, 1) := by decide +kernel
theorem dX7_pin_88 : decode cX7_pin 88 = .ok (.iload 4, 2) := by decide +kernel
theorem dX7_pin_90 : decode cX7_pin 90 = .ok (.invokevirtual 171, 3) := by decide +kernel
theorem dX7_pin_93 : decode cX7_pin 93 = .ok (.ifCond .ne 5, 3) := by decide +kernel
theorem dX7_pin_96 : decode cX7_pin 96 = .ok (.iconst 0, 1) := by decide +kernel
theorem dX7_pin_97 : decode cX7_pin 97 = .ok (.ireturn, 1) := by decide +kernel
theorem dX7_pin_98 : decode cX7_pin 98 = .ok (.aload_n 0, 1) := by decide +kernel
theorem dX7_pin_99 : decode cX7_pin 99 = .ok (.getfield 38, 3) := by decide +kernel
theorem dX7_pin_102 : decode cX7_pin 102 = .ok (.iload 4, 2) := by decide +kernel
theorem dX7_pin_104 : decode cX7_pin 104 = .ok (.iconst 1, 1) := by decide +kernel
theorem dX7_pin_105 : decode cX7_pin 105 = .ok (.bastore, 1) := by decide +kernel
theorem dX7_pin_106 : decode cX7_pin 106 = .ok (.iload 5, 2) := by decide +kernel
theorem dX7_pin_108 : decode cX7_pin 108 = .ok (.ireturn, 1) := by decide +kernel
theorem dX7_size_0 : decode cX7_size 0 = .ok (.iload_n 1, 1) := by decide +kernel
theorem dX7_size_1 : decode cX7_size 1 = .ok (.invokestatic 168, 3) := by decide +kernel
theorem dX7_size_4 : decode cX7_size 4 = .ok (.ifCond .eq 12, 3) := by decide +kernel
theorem dX7_size_7 : decode cX7_size 7 = .ok (.aload_n 0, 1) := by decide +kernel
theorem dX7_size_8 : decode cX7_size 8 = .ok (.getfield 7, 3) := by decide +kernel
theorem dX7_size_11 : decode cX7_size 11 = .ok (.iload_n 1, 1) := by decide +kernel
theorem dX7_size_12 : decode cX7_size 12 = .ok (.iaload, 1) := by decide +kernel
theorem dX7_size_13 : decode cX7_size 13 = .ok (.goto 5, 3) := by decide +kernel
theorem dX7_size_16 : decode cX7_size 16 = .ok (.bipush (-2), 2) := by decide +kernel
theorem dX7_size_18 : decode cX7_size 18 = .ok (.ireturn, 1) := by decide +kernel
theorem dX7_page_0 : decode cX7_page 0 = .ok (.iload_n 1, 1) := by decide +kernel
theorem dX7_page_1 : decode cX7_page 1 = .ok (.invokestatic 168, 3) := by decide +kernel
theorem dX7_page_4 : decode cX7_page 4 = .ok (.ifCond .eq 20, 3) := by decide +kernel
theorem dX7_page_7 : decode cX7_page 7 = .ok (.iload_n 2, 1) := by decide +kernel
theorem dX7_page_8 : decode cX7_page 8 = .ok (.invokestatic 202, 3) := by decide +kernel
theorem dX7_page_11 : decode cX7_page 11 = .ok (.ifCond .eq 13, 3) := by decide +kernel
theorem dX7_page_14 : decode cX7_page 14 = .ok (.iload_n 3, 1) := by decide +kernel
theorem dX7_page_15 : decode cX7_page 15 = .ok (.ifCond .lt 9, 3) := by decide +kernel
theorem dX7_page_18 : decode cX7_page 18 = .ok (.iload_n 3, 1) := by decide +kernel
theorem dX7_page_19 : decode cX7_page 19 = .ok (.bipush 7, 2) := by decide +kernel
theorem dX7_page_21 : decode cX7_page 21 = .ok (.if_icmp .le 6, 3) := by decide +kernel
theorem dX7_page_24 : decode cX7_page 24 = .ok (.bipush (-2), 2) := by decide +kernel
theorem dX7_page_26 : decode cX7_page 26 = .ok (.ireturn, 1) := by decide +kernel
theorem dX7_page_27 : decode cX7_page 27 = .ok (.sipush 256, 3) := by decide +kernel
theorem dX7_page_30 : decode cX7_page 30 = .ok (.iload_n 1, 1) := by decide +kernel
theorem dX7_page_31 : decode cX7_page 31 = .ok (.imul, 1) := by decide +kernel
theorem dX7_page_32 : decode cX7_page 32 = .ok (.iload_n 2, 1) := by decide +kernel
theorem dX7_page_33 : decode cX7_page 33 = .ok (.iadd, 1) := by decide +kernel
theorem dX7_page_34 : decode cX7_page 34 = .ok (.istore 4, 2) := by decide +kernel
theorem dX7_page_36 : decode cX7_page 36 = .ok (.iload_n 3, 1) := by decide +kernel
theorem dX7_page_37 : decode cX7_page 37 = .ok (.tableswitch 141 0 6 #[43, 51, 59, 67, 89, 109, 125], 43) := by decide +kernel
theorem dX7_page_80 : decode cX7_page 80 = .ok (.aload_n 0, 1) := by decide +kernel
theorem dX7_page_81 : decode cX7_page 81 = .ok (.getfield 22, 3) := by decide +kernel
theorem dX7_page_84 : decode cX7_page 84 = .ok (.iload 4, 2) := by decide +kernel
theorem dX7_page_86 : decode cX7_page 86 = .ok (.iaload, 1) := by decide +kernel
theorem dX7_page_87 : decode cX7_page 87 = .ok (.ireturn, 1) := by decide +kernel
theorem dX7_page_88 : decode cX7_page 88 = .ok (.aload_n 0, 1) := by decide +kernel
theorem dX7_page_89 : decode cX7_page 89 = .ok (.getfield 25, 3) := by decide +kernel
theorem dX7_page_92 : decode cX7_page 92 = .ok (.iload 4, 2) := by decide +kernel
theorem dX7_page_94 : decode cX7_page 94 = .ok (.iaload, 1) := by decide +kernel
theorem dX7_page_95 : decode cX7_page 95 = .ok (.ireturn, 1) := by decide +kernel
theorem dX7_page_96 : decode cX7_page 96 = .ok (.aload_n 0, 1) := by decide +kernel
theorem dX7_page_97 : decode cX7_page 97 = .ok (.getfield 28, 3) := by decide +kernel
theorem dX7_page_100 : decode cX7_page 100 = .ok (.iload 4, 2) := by decide +kernel
theorem dX7_page_102 : decode cX7_page 102 = .ok (.iaload, 1) := by decide +kernel
theorem dX7_page_103 : decode cX7_page 103 = .ok (.ireturn, 1) := by decide +kernel
theorem dX7_page_104 : decode cX7_page 104 = .ok (.aload_n 0, 1) := by decide +kernel
theorem dX7_page_105 : decode cX7_page 105 = .ok (.getfield 31, 3) := by decide +kernel
theorem dX7_page_108 : decode cX7_page 108 = .ok (.iload 4, 2) := by decide +kernel
theorem dX7_page_110 : decode cX7_page 110 = .ok (.iaload, 1) := by decide +kernel
theorem dX7_page_111 : decode cX7_page 111 = .ok (.ifCond .le 13, 3) := by decide +kernel
theorem dX7_page_114 : decode cX7_page 114 = .ok (.aload_n 0, 1) := by decide +kernel
theorem dX7_page_115 : decode cX7_page 115 = .ok (.getfield 31, 3) := by decide +kernel
theorem dX7_page_118 : decode cX7_page 118 = .ok (.iload 4, 2) := by decide +kernel
theorem dX7_page_120 : decode cX7_page 120 = .ok (.iaload, 1) := by decide +kernel
theorem dX7_page_121 : decode cX7_page 121 = .ok (.goto 4, 3) := by decide +kernel
theorem dX7_page_124 : decode cX7_page 124 = .ok (.iconst (-1), 1) := by decide +kernel
theorem dX7_page_125 : decode cX7_page 125 = .ok (.ireturn, 1) := by decide +kernel
theorem dX7_page_126 : decode cX7_page 126 = .ok (.aload_n 0, 1) := by decide +kernel
theorem dX7_page_127 : decode cX7_page 127 = .ok (.iload 4, 2) := by decide +kernel
theorem dX7_page_129 : decode cX7_page 129 = .ok (.invokevirtual 159, 3) := by decide +kernel
theorem dX7_page_132 : decode cX7_page 132 = .ok (.ifCond .eq 12, 3) := by decide +kernel
theorem dX7_page_135 : decode cX7_page 135 = .ok (.aload_n 0, 1) := by decide +kernel
theorem dX7_page_136 : decode cX7_page 136 = .ok (.iload 4, 2) := by decide +kernel
theorem dX7_page_138 : decode cX7_page 138 = .ok (.invokevirtual 108, 3) := by decide +kernel
theorem dX7_page_141 : decode cX7_page 141 = .ok (.goto 4, 3) := by decide +kernel
theorem dX7_page_144 : decode cX7_page 144 = .ok (.iconst (-1), 1) := by decide +kernel
theorem dX7_page_145 : decode cX7_page 145 = .ok (.ireturn, 1) := by decide +kernel
theorem dX7_page_146 : decode cX7_page 146 = .ok (.aload_n 0, 1) := by decide +kernel
theorem dX7_page_147 : decode cX7_page 147 = .ok (.getfield 34, 3) := by decide +kernel
theorem dX7_page_150 : decode cX7_page 150 = .ok (.iload 4, 2) := by decide +kernel
theorem dX7_page_152 : decode cX7_page 152 = .ok (.baload, 1) := by decide +kernel
theorem dX7_page_153 : decode cX7_page 153 = .ok (.ifCond .eq 7, 3) := by decide +kernel
theorem dX7_page_156 : decode cX7_page 156 = .ok (.iconst 1, 1) := by decide +kernel
theorem dX7_page_157 : decode cX7_page 157 = .ok (.goto 4, 3) := by decide +kernel
theorem dX7_page_160 : decode cX7_page 160 = .ok (.iconst 0, 1) := by decide +kernel
theorem dX7_page_161 : decode cX7_page 161 = .ok (.ireturn, 1) := by decide +kernel
theorem dX7_page_162 : decode cX7_page 162 = .ok (.aload_n 0, 1) := by decide +kernel
theorem dX7_page_163 : decode cX7_page 163 = .ok (.getfield 38, 3) := by decide +kernel
theorem dX7_page_166 : decode cX7_page 166 = .ok (.iload 4, 2) := by decide +kernel
theorem dX7_page_168 : decode cX7_page 168 = .ok (.baload, 1) := by decide +kernel
theorem dX7_page_169 : decode cX7_page 169 = .ok (.ifCond .eq 7, 3) := by decide +kernel
theorem dX7_page_172 : decode cX7_page 172 = .ok (.iconst 1, 1) := by decide +kernel
theorem dX7_page_173 : decode cX7_page 173 = .ok (.goto 4, 3) := by decide +kernel
theorem dX7_page_176 : decode cX7_page 176 = .ok (.iconst 0, 1) := by decide +kernel
theorem dX7_page_177 : decode cX7_page 177 = .ok (.ireturn, 1) := by decide +kernel
theorem dX7_page_178 : decode cX7_page 178 = .ok (.aload_n 0, 1) := by decide +kernel
theorem dX7_page_179 : decode cX7_page 179 = .ok (.iload 4, 2) := by decide +kernel
theorem dX7_page_181 : decode cX7_page 181 = .ok (.invokevirtual 159, 3) := by decide +kernel
theorem dX7_page_184 : decode cX7_page 184 = .ok (.ifCond .eq 17, 3) := by decide +kernel
theorem dX7_page_187 : decode cX7_page 187 = .ok (.aload_n 0, 1) := by decide +kernel
theorem dX7_page_188 : decode cX7_page 188 = .ok (.getfield 41, 3) := by decide +kernel
theorem dX7_page_191 : decode cX7_page 191 = .ok (.iload 4, 2) := by decide +kernel
theorem dX7_page_193 : decode cX7_page 193 = .ok (.baload, 1) := by decide +kernel
theorem dX7_page_194 : decode cX7_page 194 = .ok (.ifCond .eq 7, 3) := by decide +kernel
theorem dX7_page_197 : decode cX7_page 197 = .ok (.iconst 1, 1) := by decide +kernel
theorem dX7_page_198 : decode cX7_page 198 = .ok (.goto 4, 3) := by decide +kernel
theorem dX7_page_201 : decode cX7_page 201 = .ok (.iconst 0, 1) := by decide +kernel
theorem dX7_page_202 : decode cX7_page 202 = .ok (.ireturn, 1) := by decide +kernel
theorem dX7_hasMark_0 : decode cX7_hasMark 0 = .ok (.iload_n 2, 1) := by decide +kernel
theorem dX7_hasMark_1 : decode cX7_hasMark 1 = .ok (.tableswitch 57 0 3 #[31, 37, 43, 50], 31) := by decide +kernel
theorem dX7_hasMark_32 : decode cX7_hasMark 32 = .ok (.aload_n 0, 1) := by decide +kernel
theorem dX7_hasMark_33 : decode cX7_hasMark 33 = .ok (.iload_n 1, 1) := by decide +kernel
theorem dX7_hasMark_34 : decode cX7_hasMark 34 = .ok (.invokevirtual 159, 3) := by decide +kernel
theorem dX7_hasMark_37 : decode cX7_hasMark 37 = .ok (.ireturn, 1) := by decide +kernel
theorem dX7_hasMark_38 : decode cX7_hasMark 38 = .ok (.aload_n 0, 1) := by decide +kernel
theorem dX7_hasMark_39 : decode cX7_hasMark 39 = .ok (.iload_n 1, 1) := by decide +kernel
theorem dX7_hasMark_40 : decode cX7_hasMark 40 = .ok (.invokevirtual 146, 3) := by decide +kernel
theorem dX7_hasMark_43 : decode cX7_hasMark 43 = .ok (.ireturn, 1) := by decide +kernel
theorem dX7_hasMark_44 : decode cX7_hasMark 44 = .ok (.aload_n 0, 1) := by decide +kernel
theorem dX7_hasMark_45 : decode cX7_hasMark 45 = .ok (.getfield 34, 3) := by decide +kernel
theorem dX7_hasMark_48 : decode cX7_hasMark 48 = .ok (.iload_n 1, 1) := by decide +kernel
theorem dX7_hasMark_49 : decode cX7_hasMark 49 = .ok (.baload, 1) := by decide +kernel
theorem dX7_hasMark_50 : decode cX7_hasMark 50 = .ok (.ireturn, 1) := by decide +kernel
theorem dX7_hasMark_51 : decode cX7_hasMark 51 = .ok (.aload_n 0, 1) := by decide +kernel
theorem dX7_hasMark_52 : decode cX7_hasMark 52 = .ok (.getfield 38, 3) := by decide +kernel
theorem dX7_hasMark_55 : decode cX7_hasMark 55 = .ok (.iload_n 1, 1) := by decide +kernel
theorem dX7_hasMark_56 : decode cX7_hasMark 56 = .ok (.baload, 1) := by decide +kernel
theorem dX7_hasMark_57 : decode cX7_hasMark 57 = .ok (.ireturn, 1) := by decide +kernel
theorem dX7_hasMark_58 : decode cX7_hasMark 58 = .ok (.aload_n 0, 1) := by decide +kernel
theorem dX7_hasMark_59 : decode cX7_hasMark 59 = .ok (.getfield 31, 3) := by decide +kernel
theorem dX7_hasMark_62 : decode cX7_hasMark 62 = .ok (.iload_n 1, 1) := by decide +kernel
theorem dX7_hasMark_63 : decode cX7_hasMark 63 = .ok (.iaload, 1) := by decide +kernel
theorem dX7_hasMark_64 : decode cX7_hasMark 64 = .ok (.ifCond .le 7, 3) := by decide +kernel
theorem dX7_hasMark_67 : decode cX7_hasMark 67 = .ok (.iconst 1, 1) := by decide +kernel
theorem dX7_hasMark_68 : decode cX7_hasMark 68 = .ok (.goto 4, 3) := by decide +kernel
theorem dX7_hasMark_71 : decode cX7_hasMark 71 = .ok (.iconst 0, 1) := by decide +kernel
theorem dX7_hasMark_72 : decode cX7_hasMark 72 = .ok (.ireturn, 1) := by decide +kernel
theorem dX7_next_0 : decode cX7_next 0 = .ok (.iload_n 1, 1) := by decide +kernel
theorem dX7_next_1 : decode cX7_next 1 = .ok (.invokestatic 168, 3) := by decide +kernel
theorem dX7_next_4 : decode cX7_next 4 = .ok (.ifCond .eq 19, 3) := by decide +kernel
theorem dX7_next_7 : decode cX7_next 7 = .ok (.iload_n 2, 1) := by decide +kernel
theorem dX7_next_8 : decode cX7_next 8 = .ok (.invokestatic 202, 3) := by decide +kernel
theorem dX7_next_11 : decode cX7_next 11 = .ok (.ifCond .eq 12, 3) := by decide +kernel
theorem dX7_next_14 : decode cX7_next 14 = .ok (.iload_n 3, 1) := by decide +kernel
theorem dX7_next_15 : decode cX7_next 15 = .ok (.ifCond .lt 8, 3) := by decide +kernel
theorem dX7_next_18 : decode cX7_next 18 = .ok (.iload_n 3, 1) := by decide +kernel
theorem dX7_next_19 : decode cX7_next 19 = .ok (.iconst 4, 1) := by decide +kernel
theorem dX7_next_20 : decode cX7_next 20 = .ok (.if_icmp .le 6, 3) := by decide +kernel
theorem dX7_next_23 : decode cX7_next 23 = .ok (.bipush (-2), 2) := by decide +kernel
theorem dX7_next_25 : decode cX7_next 25 = .ok (.ireturn, 1) := by decide +kernel
theorem dX7_next_26 : decode cX7_next 26 = .ok (.iload_n 2, 1) := by decide +kernel
theorem dX7_next_27 : decode cX7_next 27 = .ok (.istore 4, 2) := by decide +kernel
theorem dX7_next_29 : decode cX7_next 29 = .ok (.iload 4, 2) := by decide +kernel
theorem dX7_next_31 : decode cX7_next 31 = .ok (.sipush 256, 3) := by decide +kernel
theorem dX7_next_34 : decode cX7_next 34 = .ok (.if_icmp .ge 25, 3) := by decide +kernel
theorem dX7_next_37 : decode cX7_next 37 = .ok (.aload_n 0, 1) := by decide +kernel
theorem dX7_next_38 : decode cX7_next 38 = .ok (.sipush 256, 3) := by decide +kernel
theorem dX7_next_41 : decode cX7_next 41 = .ok (.iload_n 1, 1) := by decide +kernel
theorem dX7_next_42 : decode cX7_next 42 = .ok (.imul, 1) := by decide +kernel
theorem dX7_next_43 : decode cX7_next 43 = .ok (.iload 4, 2) := by decide +kernel
theorem dX7_next_45 : decode cX7_next 45 = .ok (.iadd, 1) := by decide +kernel
theorem dX7_next_46 : decode cX7_next 46 = .ok (.iload_n 3, 1) := by decide +kernel
theorem dX7_next_47 : decode cX7_next 47 = .ok (.invokevirtual 208, 3) := by decide +kernel
theorem dX7_next_50 : decode cX7_next 50 = .ok (.ifCond .ne 9, 3) := by decide +kernel
theorem dX7_next_53 : decode cX7_next 53 = .ok (.iinc 4 1, 3) := by decide +kernel
theorem dX7_next_56 : decode cX7_next 56 = .ok (.goto (-27), 3) := by decide +kernel
theorem dX7_next_59 : decode cX7_next 59 = .ok (.iload 4, 2) := by decide +kernel
theorem dX7_next_61 : decode cX7_next 61 = .ok (.sipush 256, 3) := by decide +kernel
theorem dX7_next_64 : decode cX7_next 64 = .ok (.if_icmp .ge 8, 3) := by decide +kernel
theorem dX7_next_67 : decode cX7_next 67 = .ok (.iload 4, 2) := by decide +kernel
theorem dX7_next_69 : decode cX7_next 69 = .ok (.goto 4, 3) := by decide +kernel
theorem dX7_next_72 : decode cX7_next 72 = .ok (.iconst (-1), 1) := by decide +kernel
theorem dX7_next_73 : decode cX7_next 73 = .ok (.ireturn, 1) := by decide +kernel
theorem dX7_isEntry_0 : decode cX7_isEntry 0 = .ok (.aload_n 0, 1) := by decide +kernel
theorem dX7_isEntry_1 : decode cX7_isEntry 1 = .ok (.iload_n 1, 1) := by decide +kernel
theorem dX7_isEntry_2 : decode cX7_isEntry 2 = .ok (.invokevirtual 159, 3) := by decide +kernel
theorem dX7_isEntry_5 : decode cX7_isEntry 5 = .ok (.ifCond .ne 12, 3) := by decide +kernel
theorem dX7_isEntry_8 : decode cX7_isEntry 8 = .ok (.aload_n 0, 1) := by decide +kernel
theorem dX7_isEntry_9 : decode cX7_isEntry 9 = .ok (.getfield 31, 3) := by decide +kernel
theorem dX7_isEntry_12 : decode cX7_isEntry 12 = .ok (.iload_n 1, 1) := by decide +kernel
theorem dX7_isEntry_13 : decode cX7_isEntry 13 = .ok (.iaload, 1) := by decide +kernel
theorem dX7_isEntry_14 : decode cX7_isEntry 14 = .ok (.ifCond .le 7, 3) := by decide +kernel
theorem dX7_isEntry_17 : decode cX7_isEntry 17 = .ok (.iconst 1, 1) := by decide +kernel
theorem dX7_isEntry_18 : decode cX7_isEntry 18 = .ok (.goto 4, 3) := by decide +kernel
theorem dX7_isEntry_21 : decode cX7_isEntry 21 = .ok (.iconst 0, 1) := by decide +kernel
theorem dX7_isEntry_22 : decode cX7_isEntry 22 = .ok (.ireturn, 1) := by decide +kernel
theorem dX7_height_0 : decode cX7_height 0 = .ok (.iconst (-1), 1) := by decide +kernel
theorem dX7_height_1 : decode cX7_height 1 = .ok (.istore_n 2, 1) := by decide +kernel
theorem dX7_height_2 : decode cX7_height 2 = .ok (.iconst 0, 1) := by decide +kernel
theorem dX7_height_3 : decode cX7_height 3 = .ok (.istore_n 3, 1) := by decide +kernel
theorem dX7_height_4 : decode cX7_height 4 = .ok (.iload_n 3, 1) := by decide +kernel
theorem dX7_height_5 : decode cX7_height 5 = .ok (.sipush 256, 3) := by decide +kernel
theorem dX7_height_8 : decode cX7_height 8 = .ok (.if_icmp .ge 29, 3) := by decide +kernel
theorem dX7_height_11 : decode cX7_height 11 = .ok (.aload_n 0, 1) := by decide +kernel
theorem dX7_height_12 : decode cX7_height 12 = .ok (.sipush 256, 3) := by decide +kernel
theorem dX7_height_15 : decode cX7_height 15 = .ok (.iload_n 1, 1) := by decide +kernel
theorem dX7_height_16 : decode cX7_height 16 = .ok (.imul, 1) := by decide +kernel
theorem dX7_height_17 : decode cX7_height 17 = .ok (.iload_n 3, 1) := by decide +kernel
theorem dX7_height_18 : decode cX7_height 18 = .ok (.iadd, 1) := by decide +kernel
theorem dX7_height_19 : decode cX7_height 19 = .ok (.invokevirtual 212, 3) := by decide +kernel
theorem dX7_height_22 : decode cX7_height 22 = .ok (.ifCond .eq 7, 3) := by decide +kernel
theorem dX7_height_25 : decode cX7_height 25 = .ok (.iload_n 3, 1) := by decide +kernel
theorem dX7_height_26 : decode cX7_height 26 = .ok (.goto 4, 3) := by decide +kernel
theorem dX7_height_29 : decode cX7_height 29 = .ok (.iload_n 2, 1) := by decide +kernel
theorem dX7_height_30 : decode cX7_height 30 = .ok (.istore_n 2, 1) := by decide +kernel
theorem dX7_height_31 : decode cX7_height 31 = .ok (.iinc 3 1, 3) := by decide +kernel
theorem dX7_height_34 : decode cX7_height 34 = .ok (.goto (-30), 3) := by decide +kernel
theorem dX7_height_37 : decode cX7_height 37 = .ok (.iload_n 2, 1) := by decide +kernel
theorem dX7_height_38 : decode cX7_height 38 = .ok (.iconst (-1), 1) := by decide +kernel
theorem dX7_height_39 : decode cX7_height 39 = .ok (.if_icmp .ne 5, 3) := by decide +kernel
theorem dX7_height_42 : decode cX7_height 42 = .ok (.iconst 0, 1) := by decide +kernel
theorem dX7_height_43 : decode cX7_height 43 = .ok (.ireturn, 1) := by decide +kernel
theorem dX7_height_44 : decode cX7_height 44 = .ok (.iconst 1, 1) := by decide +kernel
theorem dX7_height_45 : decode cX7_height 45 = .ok (.istore_n 3, 1) := by decide +kernel
theorem dX7_height_46 : decode cX7_height 46 = .ok (.iconst 1, 1) := by decide +kernel
theorem dX7_height_47 : decode cX7_height 47 = .ok (.iconst 2, 1) := by decide +kernel
theorem dX7_height_48 : decode cX7_height 48 = .ok (.iload_n 3, 1) := by decide +kernel
theorem dX7_height_49 : decode cX7_height 49 = .ok (.imul, 1) := by decide +kernel
theorem dX7_height_50 : decode cX7_height 50 = .ok (.ishl, 1) := by decide +kernel
theorem dX7_height_51 : decode cX7_height 51 = .ok (.iload_n 2, 1) := by decide +kernel
theorem dX7_height_52 : decode cX7_height 52 = .ok (.if_icmp .gt 9, 3) := by decide +kernel
theorem dX7_height_55 : decode cX7_height 55 = .ok (.iinc 3 1, 3) := by decide +kernel
theorem dX7_height_58 : decode cX7_height 58 = .ok (.goto (-12), 3) := by decide +kernel
theorem dX7_height_61 : decode cX7_height 61 = .ok (.iload_n 3, 1) := by decide +kernel
theorem dX7_height_62 : decode cX7_height 62 = .ok (.ireturn, 1) := by decide +kernel
theorem dX7_nodes_0 : decode cX7_nodes 0 = .ok (.iconst 0, 1) := by decide +kernel
theorem dX7_nodes_1 : decode cX7_nodes 1 = .ok (.istore_n 2, 1) := by decide +kernel
theorem dX7_nodes_2 : decode cX7_nodes 2 = .ok (.aload_n 0, 1) := by decide +kernel
theorem dX7_nodes_3 : decode cX7_nodes 3 = .ok (.iload_n 1, 1) := by decide +kernel
theorem dX7_nodes_4 : decode cX7_nodes 4 = .ok (.invokevirtual 215, 3) := by decide +kernel
theorem dX7_nodes_7 : decode cX7_nodes 7 = .ok (.istore_n 3, 1) := by decide +kernel
theorem dX7_nodes_8 : decode cX7_nodes 8 = .ok (.iconst 1, 1) := by decide +kernel
theorem dX7_nodes_9 : decode cX7_nodes 9 = .ok (.istore 4, 2) := by decide +kernel
theorem dX7_nodes_11 : decode cX7_nodes 11 = .ok (.iload 4, 2) := by decide +kernel
theorem dX7_nodes_13 : decode cX7_nodes 13 = .ok (.iload_n 3, 1) := by decide +kernel
theorem dX7_nodes_14 : decode cX7_nodes 14 = .ok (.if_icmp .gt 67, 3) := by decide +kernel
theorem dX7_nodes_17 : decode cX7_nodes 17 = .ok (.iconst (-1), 1) := by decide +kernel
theorem dX7_nodes_18 : decode cX7_nodes 18 = .ok (.istore 5, 2) := by decide +kernel
theorem dX7_nodes_20 : decode cX7_nodes 20 = .ok (.iconst 0, 1) := by decide +kernel
theorem dX7_nodes_21 : decode cX7_nodes 21 = .ok (.istore 6, 2) := by decide +kernel
theorem dX7_nodes_23 : decode cX7_nodes 23 = .ok (.iload 6, 2) := by decide +kernel
theorem dX7_nodes_25 : decode cX7_nodes 25 = .ok (.sipush 256, 3) := by decide +kernel
theorem dX7_nodes_28 : decode cX7_nodes 28 = .ok (.if_icmp .ge 47, 3) := by decide +kernel
theorem dX7_nodes_31 : decode cX7_nodes 31 = .ok (.iload 6, 2) := by decide +kernel
theorem dX7_nodes_33 : decode cX7_nodes 33 = .ok (.iconst 2, 1) := by decide +kernel
theorem dX7_nodes_34 : decode cX7_nodes 34 = .ok (.iload 4, 2) := by decide +kernel
theorem dX7_nodes_36 : decode cX7_nodes 36 = .ok (.imul, 1) := by decide +kernel
theorem dX7_nodes_37 : decode cX7_nodes 37 = .ok (.ishr, 1) := by decide +kernel
theorem dX7_nodes_38 : decode cX7_nodes 38 = .ok (.istore 7, 2) := by decide +kernel
theorem dX7_nodes_40 : decode cX7_nodes 40 = .ok (.aload_n 0, 1) := by decide +kernel
theorem dX7_nodes_41 : decode cX7_nodes 41 = .ok (.sipush 256, 3) := by decide +kernel
theorem dX7_nodes_44 : decode cX7_nodes 44 = .ok (.iload_n 1, 1) := by decide +kernel
theorem dX7_nodes_45 : decode cX7_nodes 45 = .ok (.imul, 1) := by decide +kernel
theorem dX7_nodes_46 : decode cX7_nodes 46 = .ok (.iload 6, 2) := by decide +kernel
theorem dX7_nodes_48 : decode cX7_nodes 48 = .ok (.iadd, 1) := by decide +kernel
theorem dX7_nodes_49 : decode cX7_nodes 49 = .ok (.invokevirtual 212, 3) := by decide +kernel
theorem dX7_nodes_52 : decode cX7_nodes 52 = .ok (.ifCond .eq 17, 3) := by decide +kernel
theorem dX7_nodes_55 : decode cX7_nodes 55 = .ok (.iload 7, 2) := by decide +kernel
theorem dX7_nodes_57 : decode cX7_nodes 57 = .ok (.iload 5, 2) := by decide +kernel
theorem dX7_nodes_59 : decode cX7_nodes 59 = .ok (.if_icmp .eq 10, 3) := by decide +kernel
theorem dX7_nodes_62 : decode cX7_nodes 62 = .ok (.iinc 2 1, 3) := by decide +kernel
theorem dX7_nodes_65 : decode cX7_nodes 65 = .ok (.iload 7, 2) := by decide +kernel
theorem dX7_nodes_67 : decode cX7_nodes 67 = .ok (.istore 5, 2) := by decide +kernel
theorem dX7_nodes_69 : decode cX7_nodes 69 = .ok (.iinc 6 1, 3) := by decide +kernel
theorem dX7_nodes_72 : decode cX7_nodes 72 = .ok (.goto (-49), 3) := by decide +kernel
theorem dX7_nodes_75 : decode cX7_nodes 75 = .ok (.iinc 4 1, 3) := by decide +kernel
theorem dX7_nodes_78 : decode cX7_nodes 78 = .ok (.goto (-67), 3) := by decide +kernel
theorem dX7_nodes_81 : decode cX7_nodes 81 = .ok (.iload_n 2, 1) := by decide +kernel
theorem dX7_nodes_82 : decode cX7_nodes 82 = .ok (.ireturn, 1) := by decide +kernel
theorem dX7_tree_0 : decode cX7_tree 0 = .ok (.iload_n 1, 1) := by decide +kernel
theorem dX7_tree_1 : decode cX7_tree 1 = .ok (.invokestatic 168, 3) := by decide +kernel
theorem dX7_tree_4 : decode cX7_tree 4 = .ok (.ifCond .eq 12, 3) := by decide +kernel
theorem dX7_tree_7 : decode cX7_tree 7 = .ok (.iload_n 2, 1) := by decide +kernel
theorem dX7_tree_8 : decode cX7_tree 8 = .ok (.ifCond .lt 8, 3) := by decide +kernel
theorem dX7_tree_11 : decode cX7_tree 11 = .ok (.iload_n 2, 1) := by decide +kernel
theorem dX7_tree_12 : decode cX7_tree 12 = .ok (.iconst 5, 1) := by decide +kernel
theorem dX7_tree_13 : decode cX7_tree 13 = .ok (.if_icmp .le 6, 3) := by decide +kernel
theorem dX7_tree_16 : decode cX7_tree 16 = .ok (.bipush (-2), 2) := by decide +kernel
theorem dX7_tree_18 : decode cX7_tree 18 = .ok (.ireturn, 1) := by decide +kernel
theorem dX7_tree_19 : decode cX7_tree 19 = .ok (.iload_n 2, 1) := by decide +kernel
theorem dX7_tree_20 : decode cX7_tree 20 = .ok (.tableswitch 106 0 4 #[36, 42, 48, 92, 99], 36) := by decide +kernel
theorem dX7_tree_56 : decode cX7_tree 56 = .ok (.aload_n 0, 1) := by decide +kernel
theorem dX7_tree_57 : decode cX7_tree 57 = .ok (.iload_n 1, 1) := by decide +kernel
theorem dX7_tree_58 : decode cX7_tree 58 = .ok (.invokevirtual 215, 3) := by decide +kernel
theorem dX7_tree_61 : decode cX7_tree 61 = .ok (.ireturn, 1) := by decide +kernel
theorem dX7_tree_62 : decode cX7_tree 62 = .ok (.aload_n 0, 1) := by decide +kernel
theorem dX7_tree_63 : decode cX7_tree 63 = .ok (.iload_n 1, 1) := by decide +kernel
theorem dX7_tree_64 : decode cX7_tree 64 = .ok (.invokevirtual 218, 3) := by decide +kernel
theorem dX7_tree_67 : decode cX7_tree 67 = .ok (.ireturn, 1) := by decide +kernel
theorem dX7_tree_68 : decode cX7_tree 68 = .ok (.iconst 0, 1) := by decide +kernel
theorem dX7_tree_69 : decode cX7_tree 69 = .ok (.istore_n 3, 1) := by decide +kernel
theorem dX7_tree_70 : decode cX7_tree 70 = .ok (.iconst 0, 1) := by decide +kernel
theorem dX7_tree_71 : decode cX7_tree 71 = .ok (.istore 4, 2) := by decide +kernel
theorem dX7_tree_73 : decode cX7_tree 73 = .ok (.iload 4, 2) := by decide +kernel
theorem dX7_tree_75 : decode cX7_tree 75 = .ok (.sipush 256, 3) := by decide +kernel
theorem dX7_tree_78 : decode cX7_tree 78 = .ok (.if_icmp .ge 32, 3) := by decide +kernel
theorem dX7_tree_81 : decode cX7_tree 81 = .ok (.iload_n 3, 1) := by decide +kernel
theorem dX7_tree_82 : decode cX7_tree 82 = .ok (.aload_n 0, 1) := by decide +kernel
theorem dX7_tree_83 : decode cX7_tree 83 = .ok (.sipush 256, 3) := by decide +kernel
theorem dX7_tree_86 : decode cX7_tree 86 = .ok (.iload_n 1, 1) := by decide +kernel
theorem dX7_tree_87 : decode cX7_tree 87 = .ok (.imul, 1) := by decide +kernel
theorem dX7_tree_88 : decode cX7_tree 88 = .ok (.iload 4, 2) := by decide +kernel
theorem dX7_tree_90 : decode cX7_tree 90 = .ok (.iadd, 1) := by decide +kernel
theorem dX7_tree_91 : decode cX7_tree 91 = .ok (.invokevirtual 212, 3) := by decide +kernel
theorem dX7_tree_94 : decode cX7_tree 94 = .ok (.ifCond .eq 7, 3) := by decide +kernel
theorem dX7_tree_97 : decode cX7_tree 97 = .ok (.iconst 1, 1) := by decide +kernel
theorem dX7_tree_98 : decode cX7_tree 98 = .ok (.goto 4, 3) := by decide +kernel
theorem dX7_tree_101 : decode cX7_tree 101 = .ok (.iconst 0, 1) := by decide +kernel
theorem dX7_tree_102 : decode cX7_tree 102 = .ok (.iadd, 1) := by decide +kernel
theorem dX7_tree_103 : decode cX7_tree 103 = .ok (.istore_n 3, 1) := by decide +kernel
theorem dX7_tree_104 : decode cX7_tree 104 = .ok (.iinc 4 1, 3) := by decide +kernel
theorem dX7_tree_107 : decode cX7_tree 107 = .ok (.goto (-34), 3) := by decide +kernel
theorem dX7_tree_110 : decode cX7_tree 110 = .ok (.iload_n 3, 1) := by decide +kernel
theorem dX7_tree_111 : decode cX7_tree 111 = .ok (.ireturn, 1) := by decide +kernel
theorem dX7_tree_112 : decode cX7_tree 112 = .ok (.aload_n 0, 1) := by decide +kernel
theorem dX7_tree_113 : decode cX7_tree 113 = .ok (.getfield 13, 3) := by decide +kernel
theorem dX7_tree_116 : decode cX7_tree 116 = .ok (.iload_n 1, 1) := by decide +kernel
theorem dX7_tree_117 : decode cX7_tree 117 = .ok (.iaload, 1) := by decide +kernel
theorem dX7_tree_118 : decode cX7_tree 118 = .ok (.ireturn, 1) := by decide +kernel
theorem dX7_tree_119 : decode cX7_tree 119 = .ok (.aload_n 0, 1) := by decide +kernel
theorem dX7_tree_120 : decode cX7_tree 120 = .ok (.getfield 16, 3) := by decide +kernel
theorem dX7_tree_123 : decode cX7_tree 123 = .ok (.iload_n 1, 1) := by decide +kernel
theorem dX7_tree_124 : decode cX7_tree 124 = .ok (.iaload, 1) := by decide +kernel
theorem dX7_tree_125 : decode cX7_tree 125 = .ok (.ireturn, 1) := by decide +kernel
theorem dX7_tree_126 : decode cX7_tree 126 = .ok (.aload_n 0, 1) := by decide +kernel
theorem dX7_tree_127 : decode cX7_tree 127 = .ok (.getfield 19, 3) := by decide +kernel
theorem dX7_tree_130 : decode cX7_tree 130 = .ok (.iload_n 1, 1) := by decide +kernel
theorem dX7_tree_131 : decode cX7_tree 131 = .ok (.iaload, 1) := by decide +kernel
theorem dX7_tree_132 : decode cX7_tree 132 = .ok (.ireturn, 1) := by decide +kernel
theorem dX7_listed_0 : decode cX7_listed 0 = .ok (.iload_n 2, 1) := by decide +kernel
theorem dX7_listed_1 : decode cX7_listed 1 = .ok (.ifCond .lt 22, 3) := by decide +kernel
theorem dX7_listed_4 : decode cX7_listed 4 = .ok (.iload_n 2, 1) := by decide +kernel
theorem dX7_listed_5 : decode cX7_listed 5 = .ok (.iload_n 1, 1) := by decide +kernel
theorem dX7_listed_6 : decode cX7_listed 6 = .ok (.ifCond .eq 10, 3) := by decide +kernel
theorem dX7_listed_9 : decode cX7_listed 9 = .ok (.aload_n 0, 1) := by decide +kernel
theorem dX7_listed_10 : decode cX7_listed 10 = .ok (.getfield 102, 3) := by decide +kernel
theorem dX7_listed_13 : decode cX7_listed 13 = .ok (.goto 7, 3) := by decide +kernel
theorem dX7_listed_16 : decode cX7_listed 16 = .ok (.aload_n 0, 1) := by decide +kernel
theorem dX7_listed_17 : decode cX7_listed 17 = .ok (.getfield 105, 3) := by decide +kernel
theorem dX7_listed_20 : decode cX7_listed 20 = .ok (.if_icmp .lt 5, 3) := by decide +kernel
theorem dX7_listed_23 : decode cX7_listed 23 = .ok (.iconst (-1), 1) := by decide +kernel
theorem dX7_listed_24 : decode cX7_listed 24 = .ok (.ireturn, 1) := by decide +kernel
theorem dX7_listed_25 : decode cX7_listed 25 = .ok (.iload_n 1, 1) := by decide +kernel
theorem dX7_listed_26 : decode cX7_listed 26 = .ok (.ifCond .eq 12, 3) := by decide +kernel
theorem dX7_listed_29 : decode cX7_listed 29 = .ok (.aload_n 0, 1) := by decide +kernel
theorem dX7_listed_30 : decode cX7_listed 30 = .ok (.getfield 44, 3) := by decide +kernel
theorem dX7_listed_33 : decode cX7_listed 33 = .ok (.iload_n 2, 1) := by decide +kernel
theorem dX7_listed_34 : decode cX7_listed 34 = .ok (.iaload, 1) := by decide +kernel
theorem dX7_listed_35 : decode cX7_listed 35 = .ok (.goto 9, 3) := by decide +kernel
theorem dX7_listed_38 : decode cX7_listed 38 = .ok (.aload_n 0, 1) := by decide +kernel
theorem dX7_listed_39 : decode cX7_listed 39 = .ok (.getfield 47, 3) := by decide +kernel
theorem dX7_listed_42 : decode cX7_listed 42 = .ok (.iload_n 2, 1) := by decide +kernel
theorem dX7_listed_43 : decode cX7_listed 43 = .ok (.iaload, 1) := by decide +kernel
theorem dX7_listed_44 : decode cX7_listed 44 = .ok (.ireturn, 1) := by decide +kernel
theorem dX7_disk_0 : decode cX7_disk 0 = .ok (.iload_n 1, 1) := by decide +kernel
theorem dX7_disk_1 : decode cX7_disk 1 = .ok (.ifCond .lt 21, 3) := by decide +kernel
theorem dX7_disk_4 : decode cX7_disk 4 = .ok (.iload_n 1, 1) := by decide +kernel
theorem dX7_disk_5 : decode cX7_disk 5 = .ok (.aload_n 0, 1) := by decide +kernel
theorem dX7_disk_6 : decode cX7_disk 6 = .ok (.getfield 86, 3) := by decide +kernel
theorem dX7_disk_9 : decode cX7_disk 9 = .ok (.if_icmp .ge 13, 3) := by decide +kernel
theorem dX7_disk_12 : decode cX7_disk 12 = .ok (.iload_n 2, 1) := by decide +kernel
theorem dX7_disk_13 : decode cX7_disk 13 = .ok (.ifCond .lt 9, 3) := by decide +kernel
theorem dX7_disk_16 : decode cX7_disk 16 = .ok (.iload_n 2, 1) := by decide +kernel
theorem dX7_disk_17 : decode cX7_disk 17 = .ok (.bipush 64, 2) := by decide +kernel
theorem dX7_disk_19 : decode cX7_disk 19 = .ok (.if_icmp .lt 8, 3) := by decide +kernel
theorem dX7_disk_22 : decode cX7_disk 22 = .ok (.bipush (-2), 2) := by decide +kernel
theorem dX7_disk_24 : decode cX7_disk 24 = .ok (.goto 18, 3) := by decide +kernel
theorem dX7_disk_27 : decode cX7_disk 27 = .ok (.aload_n 0, 1) := by decide +kernel
theorem dX7_disk_28 : decode cX7_disk 28 = .ok (.getfield 58, 3) := by decide +kernel
theorem dX7_disk_31 : decode cX7_disk 31 = .ok (.bipush 64, 2) := by decide +kernel
theorem dX7_disk_33 : decode cX7_disk 33 = .ok (.iload_n 1, 1) := by decide +kernel
theorem dX7_disk_34 : decode cX7_disk 34 = .ok (.imul, 1) := by decide +kernel
theorem dX7_disk_35 : decode cX7_disk 35 = .ok (.iload_n 2, 1) := by decide +kernel
theorem dX7_disk_36 : decode cX7_disk 36 = .ok (.iadd, 1) := by decide +kernel
theorem dX7_disk_37 : decode cX7_disk 37 = .ok (.baload, 1) := by decide +kernel
theorem dX7_disk_38 : decode cX7_disk 38 = .ok (.sipush 255, 3) := by decide +kernel
theorem dX7_disk_41 : decode cX7_disk 41 = .ok (.iand, 1) := by decide +kernel
theorem dX7_disk_42 : decode cX7_disk 42 = .ok (.ireturn, 1) := by decide +kernel
theorem dX7_run_0 : decode cX7_run 0 = .ok (.iload_n 2, 1) := by decide +kernel
theorem dX7_run_1 : decode cX7_run 1 = .ok (.ifCond .lt 8, 3) := by decide +kernel
theorem dX7_run_4 : decode cX7_run 4 = .ok (.iload_n 2, 1) := by decide +kernel
theorem dX7_run_5 : decode cX7_run 5 = .ok (.iconst 2, 1) := by decide +kernel
theorem dX7_run_6 : decode cX7_run 6 = .ok (.if_icmp .le 6, 3) := by decide +kernel
theorem dX7_run_9 : decode cX7_run 9 = .ok (.bipush (-2), 2) := by decide +kernel
theorem dX7_run_11 : decode cX7_run 11 = .ok (.ireturn, 1) := by decide +kernel
theorem dX7_run_12 : decode cX7_run 12 = .ok (.iload_n 1, 1) := by decide +kernel
theorem dX7_run_13 : decode cX7_run 13 = .ok (.ifCond .lt 11, 3) := by decide +kernel
theorem dX7_run_16 : decode cX7_run 16 = .ok (.iload_n 1, 1) := by decide +kernel
theorem dX7_run_17 : decode cX7_run 17 = .ok (.aload_n 0, 1) := by decide +kernel
theorem dX7_run_18 : decode cX7_run 18 = .ok (.getfield 93, 3) := by decide +kernel
theorem dX7_run_21 : decode cX7_run 21 = .ok (.if_icmp .lt 5, 3) := by decide +kernel
theorem dX7_run_24 : decode cX7_run 24 = .ok (.iconst (-1), 1) := by decide +kernel
theorem dX7_run_25 : decode cX7_run 25 = .ok (.ireturn, 1) := by decide +kernel
theorem dX7_run_26 : decode cX7_run 26 = .ok (.iload_n 2, 1) := by decide +kernel
theorem dX7_run_27 : decode cX7_run 27 = .ok (.ifCond .ne 12, 3) := by decide +kernel
theorem dX7_run_30 : decode cX7_run 30 = .ok (.aload_n 0, 1) := by decide +kernel
theorem dX7_run_31 : decode cX7_run 31 = .ok (.getfield 70, 3) := by decide +kernel
theorem dX7_run_34 : decode cX7_run 34 = .ok (.iload_n 1, 1) := by decide +kernel
theorem dX7_run_35 : decode cX7_run 35 = .ok (.iaload, 1) := by decide +kernel
theorem dX7_run_36 : decode cX7_run 36 = .ok (.goto 23, 3) := by decide +kernel
theorem dX7_run_39 : decode cX7_run 39 = .ok (.iload_n 2, 1) := by decide +kernel
theorem dX7_run_40 : decode cX7_run 40 = .ok (.iconst 1, 1) := by decide +kernel
theorem dX7_run_41 : decode cX7_run 41 = .ok (.if_icmp .ne 12, 3) := by decide +kernel
theorem dX7_run_44 : decode cX7_run 44 = .ok (.aload_n 0, 1) := by decide +kernel
theorem dX7_run_45 : decode cX7_run 45 = .ok (.getfield 73, 3) := by decide +kernel
theorem dX7_run_48 : decode cX7_run 48 = .ok (.iload_n 1, 1) := by decide +kernel
theorem dX7_run_49 : decode cX7_run 49 = .ok (.iaload, 1) := by decide +kernel
theorem dX7_run_50 : decode cX7_run 50 = .ok (.goto 9, 3) := by decide +kernel
theorem dX7_run_53 : decode cX7_run 53 = .ok (.aload_n 0, 1) := by decide +kernel
theorem dX7_run_54 : decode cX7_run 54 = .ok (.getfield 76, 3) := by decide +kernel
theorem dX7_run_57 : decode cX7_run 57 = .ok (.iload_n 1, 1) := by decide +kernel
theorem dX7_run_58 : decode cX7_run 58 = .ok (.iaload, 1) := by decide +kernel
theorem dX7_run_59 : decode cX7_run 59 = .ok (.ireturn, 1) := by decide +kernel
theorem dX7_pagesIn_0 : decode cX7_pagesIn 0 = .ok (.iconst 0, 1) := by decide +kernel
theorem dX7_pagesIn_1 : decode cX7_pagesIn 1 = .ok (.istore_n 1, 1) := by decide +kernel
theorem dX7_pagesIn_2 : decode cX7_pagesIn 2 = .ok (.iconst 0, 1) := by decide +kernel
theorem dX7_pagesIn_3 : decode cX7_pagesIn 3 = .ok (.istore_n 2, 1) := by decide +kernel
theorem dX7_pagesIn_4 : decode cX7_pagesIn 4 = .ok (.iload_n 2, 1) := by decide +kernel
theorem dX7_pagesIn_5 : decode cX7_pagesIn 5 = .ok (.sipush 3072, 3) := by decide +kernel
theorem dX7_pagesIn_8 : decode cX7_pagesIn 8 = .ok (.if_icmp .ge 25, 3) := by decide +kernel
theorem dX7_pagesIn_11 : decode cX7_pagesIn 11 = .ok (.iload_n 1, 1) := by decide +kernel
theorem dX7_pagesIn_12 : decode cX7_pagesIn 12 = .ok (.aload_n 0, 1) := by decide +kernel
theorem dX7_pagesIn_13 : decode cX7_pagesIn 13 = .ok (.iload_n 2, 1) := by decide +kernel
theorem dX7_pagesIn_14 : decode cX7_pagesIn 14 = .ok (.invokevirtual 159, 3) := by decide +kernel
theorem dX7_pagesIn_17 : decode cX7_pagesIn 17 = .ok (.ifCond .eq 7, 3) := by decide +kernel
theorem dX7_pagesIn_20 : decode cX7_pagesIn 20 = .ok (.iconst 1, 1) := by decide +kernel
theorem dX7_pagesIn_21 : decode cX7_pagesIn 21 = .ok (.goto 4, 3) := by decide +kernel
theorem dX7_pagesIn_24 : decode cX7_pagesIn 24 = .ok (.iconst 0, 1) := by decide +kernel
theorem dX7_pagesIn_25 : decode cX7_pagesIn 25 = .ok (.iadd, 1) := by decide +kernel
theorem dX7_pagesIn_26 : decode cX7_pagesIn 26 = .ok (.istore_n 1, 1) := by decide +kernel
theorem dX7_pagesIn_27 : decode cX7_pagesIn 27 = .ok (.iinc 2 1, 3) := by decide +kernel
theorem dX7_pagesIn_30 : decode cX7_pagesIn 30 = .ok (.goto (-26), 3) := by decide +kernel
theorem dX7_pagesIn_33 : decode cX7_pagesIn 33 = .ok (.iload_n 1, 1) := by decide +kernel
theorem dX7_pagesIn_34 : decode cX7_pagesIn 34 = .ok (.ireturn, 1) := by decide +kernel
theorem dX7_freeBlocks_0 : decode cX7_freeBlocks 0 = .ok (.iconst 0, 1) := by decide +kernel
theorem dX7_freeBlocks_1 : decode cX7_freeBlocks 1 = .ok (.istore_n 1, 1) := by decide +kernel
theorem dX7_freeBlocks_2 : decode cX7_freeBlocks 2 = .ok (.iconst 0, 1) := by decide +kernel
theorem dX7_freeBlocks_3 : decode cX7_freeBlocks 3 = .ok (.istore_n 2, 1) := by decide +kernel
theorem dX7_freeBlocks_4 : decode cX7_freeBlocks 4 = .ok (.iload_n 2, 1) := by decide +kernel
theorem dX7_freeBlocks_5 : decode cX7_freeBlocks 5 = .ok (.aload_n 0, 1) := by decide +kernel
theorem dX7_freeBlocks_6 : decode cX7_freeBlocks 6 = .ok (.getfield 86, 3) := by decide +kernel
theorem dX7_freeBlocks_9 : decode cX7_freeBlocks 9 = .ok (.if_icmp .ge 26, 3) := by decide +kernel
theorem dX7_freeBlocks_12 : decode cX7_freeBlocks 12 = .ok (.iload_n 1, 1) := by decide +kernel
theorem dX7_freeBlocks_13 : decode cX7_freeBlocks 13 = .ok (.aload_n 0, 1) := by decide +kernel
theorem dX7_freeBlocks_14 : decode cX7_freeBlocks 14 = .ok (.getfield 61, 3) := by decide +kernel
theorem dX7_freeBlocks_17 : decode cX7_freeBlocks 17 = .ok (.iload_n 2, 1) := by decide +kernel
theorem dX7_freeBlocks_18 : decode cX7_freeBlocks 18 = .ok (.baload, 1) := by decide +kernel
theorem dX7_freeBlocks_19 : decode cX7_freeBlocks 19 = .ok (.ifCond .eq 7, 3) := by decide +kernel
theorem dX7_freeBlocks_22 : decode cX7_freeBlocks 22 = .ok (.iconst 0, 1) := by decide +kernel
theorem dX7_freeBlocks_23 : decode cX7_freeBlocks 23 = .ok (.goto 4, 3) := by decide +kernel
theorem dX7_freeBlocks_26 : decode cX7_freeBlocks 26 = .ok (.iconst 1, 1) := by decide +kernel
theorem dX7_freeBlocks_27 : decode cX7_freeBlocks 27 = .ok (.iadd, 1) := by decide +kernel
theorem dX7_freeBlocks_28 : decode cX7_freeBlocks 28 = .ok (.istore_n 1, 1) := by decide +kernel
theorem dX7_freeBlocks_29 : decode cX7_freeBlocks 29 = .ok (.iinc 2 1, 3) := by decide +kernel
theorem dX7_freeBlocks_32 : decode cX7_freeBlocks 32 = .ok (.goto (-28), 3) := by decide +kernel
theorem dX7_freeBlocks_35 : decode cX7_freeBlocks 35 = .ok (.iload_n 1, 1) := by decide +kernel
theorem dX7_freeBlocks_36 : decode cX7_freeBlocks 36 = .ok (.ireturn, 1) := by decide +kernel
theorem dX7_wrongFiles_0 : decode cX7_wrongFiles 0 = .ok (.iconst 0, 1) := by decide +kernel
theorem dX7_wrongFiles_1 : decode cX7_wrongFiles 1 = .ok (.istore_n 1, 1) := by decide +kernel
theorem dX7_wrongFiles_2 : decode cX7_wrongFiles 2 = .ok (.iconst 0, 1) := by decide +kernel
theorem dX7_wrongFiles_3 : decode cX7_wrongFiles 3 = .ok (.istore_n 2, 1) := by decide +kernel
theorem dX7_wrongFiles_4 : decode cX7_wrongFiles 4 = .ok (.iload_n 2, 1) := by decide +kernel
theorem dX7_wrongFiles_5 : decode cX7_wrongFiles 5 = .ok (.bipush 12, 2) := by decide +kernel
theorem dX7_wrongFiles_7 : decode cX7_wrongFiles 7 = .ok (.if_icmp .ge 26, 3) := by decide +kernel
theorem dX7_wrongFiles_10 : decode cX7_wrongFiles 10 = .ok (.iload_n 1, 1) := by decide +kernel
theorem dX7_wrongFiles_11 : decode cX7_wrongFiles 11 = .ok (.aload_n 0, 1) := by decide +kernel
theorem dX7_wrongFiles_12 : decode cX7_wrongFiles 12 = .ok (.getfield 19, 3) := by decide +kernel
theorem dX7_wrongFiles_15 : decode cX7_wrongFiles 15 = .ok (.iload_n 2, 1) := by decide +kernel
theorem dX7_wrongFiles_16 : decode cX7_wrongFiles 16 = .ok (.iaload, 1) := by decide +kernel
theorem dX7_wrongFiles_17 : decode cX7_wrongFiles 17 = .ok (.ifCond .eq 7, 3) := by decide +kernel
theorem dX7_wrongFiles_20 : decode cX7_wrongFiles 20 = .ok (.iconst 1, 1) := by decide +kernel
theorem dX7_wrongFiles_21 : decode cX7_wrongFiles 21 = .ok (.goto 4, 3) := by decide +kernel
theorem dX7_wrongFiles_24 : decode cX7_wrongFiles 24 = .ok (.iconst 0, 1) := by decide +kernel
theorem dX7_wrongFiles_25 : decode cX7_wrongFiles 25 = .ok (.iadd, 1) := by decide +kernel
theorem dX7_wrongFiles_26 : decode cX7_wrongFiles 26 = .ok (.istore_n 1, 1) := by decide +kernel
theorem dX7_wrongFiles_27 : decode cX7_wrongFiles 27 = .ok (.iinc 2 1, 3) := by decide +kernel
theorem dX7_wrongFiles_30 : decode cX7_wrongFiles 30 = .ok (.goto (-26), 3) := by decide +kernel
theorem dX7_wrongFiles_33 : decode cX7_wrongFiles 33 = .ok (.iload_n 1, 1) := by decide +kernel
theorem dX7_wrongFiles_34 : decode cX7_wrongFiles 34 = .ok (.ireturn, 1) := by decide +kernel
theorem dX7_told_0 : decode cX7_told 0 = .ok (.iload_n 1, 1) := by decide +kernel
theorem dX7_told_1 : decode cX7_told 1 = .ok (.tableswitch 123 0 11 #[63, 68, 73, 78, 83, 88, 93, 98, 103, 108, 113, 118], 63) := by decide +kernel
theorem dX7_told_64 : decode cX7_told 64 = .ok (.aload_n 0, 1) := by decide +kernel
theorem dX7_told_65 : decode cX7_told 65 = .ok (.invokevirtual 221, 3) := by decide +kernel
theorem dX7_told_68 : decode cX7_told 68 = .ok (.ireturn, 1) := by decide +kernel
theorem dX7_told_69 : decode cX7_told 69 = .ok (.aload_n 0, 1) := by decide +kernel
theorem dX7_told_70 : decode cX7_told 70 = .ok (.getfield 102, 3) := by decide +kernel
theorem dX7_told_73 : decode cX7_told 73 = .ok (.ireturn, 1) := by decide +kernel
theorem dX7_told_74 : decode cX7_told 74 = .ok (.aload_n 0, 1) := by decide +kernel
theorem dX7_told_75 : decode cX7_told 75 = .ok (.invokevirtual 180, 3) := by decide +kernel
theorem dX7_told_78 : decode cX7_told 78 = .ok (.ireturn, 1) := by decide +kernel
theorem dX7_told_79 : decode cX7_told 79 = .ok (.aload_n 0, 1) := by decide +kernel
theorem dX7_told_80 : decode cX7_told 80 = .ok (.invokevirtual 205, 3) := by decide +kernel
theorem dX7_told_83 : decode cX7_told 83 = .ok (.ireturn, 1) := by decide +kernel
theorem dX7_told_84 : decode cX7_told 84 = .ok (.aload_n 0, 1) := by decide +kernel
theorem dX7_told_85 : decode cX7_told 85 = .ok (.getfield 120, 3) := by decide +kernel
theorem dX7_told_88 : decode cX7_told 88 = .ok (.ireturn, 1) := by decide +kernel
theorem dX7_told_89 : decode cX7_told 89 = .ok (.aload_n 0, 1) := by decide +kernel
theorem dX7_told_90 : decode cX7_told 90 = .ok (.getfield 126, 3) := by decide +kernel
theorem dX7_told_93 : decode cX7_told 93 = .ok (.ireturn, 1) := by decide +kernel
theorem dX7_told_94 : decode cX7_told 94 = .ok (.aload_n 0, 1) := by decide +kernel
theorem dX7_told_95 : decode cX7_told 95 = .ok (.getfield 96, 3) := by decide +kernel
theorem dX7_told_98 : decode cX7_told 98 = .ok (.ireturn, 1) := by decide +kernel
theorem dX7_told_99 : decode cX7_told 99 = .ok (.aload_n 0, 1) := by decide +kernel
theorem dX7_told_100 : decode cX7_told 100 = .ok (.getfield 99, 3) := by decide +kernel
theorem dX7_told_103 : decode cX7_told 103 = .ok (.ireturn, 1) := by decide +kernel
theorem dX7_told_104 : decode cX7_told 104 = .ok (.aload_n 0, 1) := by decide +kernel
theorem dX7_told_105 : decode cX7_told 105 = .ok (.invokevirtual 224, 3) := by decide +kernel
theorem dX7_told_108 : decode cX7_told 108 = .ok (.ireturn, 1) := by decide +kernel
theorem dX7_told_109 : decode cX7_told 109 = .ok (.aload_n 0, 1) := by decide +kernel
theorem dX7_told_110 : decode cX7_told 110 = .ok (.getfield 186, 3) := by decide +kernel
theorem dX7_told_113 : decode cX7_told 113 = .ok (.ireturn, 1) := by decide +kernel
theorem dX7_told_114 : decode cX7_told 114 = .ok (.aload_n 0, 1) := by decide +kernel
theorem dX7_told_115 : decode cX7_told 115 = .ok (.getfield 93, 3) := by decide +kernel
theorem dX7_told_118 : decode cX7_told 118 = .ok (.ireturn, 1) := by decide +kernel
theorem dX7_told_119 : decode cX7_told 119 = .ok (.aload_n 0, 1) := by decide +kernel
theorem dX7_told_120 : decode cX7_told 120 = .ok (.invokevirtual 227, 3) := by decide +kernel
theorem dX7_told_123 : decode cX7_told 123 = .ok (.ireturn, 1) := by decide +kernel
theorem dX7_told_124 : decode cX7_told 124 = .ok (.bipush (-2), 2) := by decide +kernel
theorem dX7_told_126 : decode cX7_told 126 = .ok (.ireturn, 1) := by decide +kernel
theorem dJ9_max_7cf53_0 : decode cJ9_max_7cf53 0 = .ok (.iload_n 0, 1) := by decide +kernel
theorem dJ9_max_7cf53_1 : decode cJ9_max_7cf53 1 = .ok (.iload_n 1, 1) := by decide +kernel
theorem dJ9_max_7cf53_2 : decode cJ9_max_7cf53 2 = .ok (.if_icmp .lt 7, 3) := by decide +kernel
theorem dJ9_max_7cf53_5 : decode cJ9_max_7cf53 5 = .ok (.iload_n 0, 1) := by decide +kernel
theorem dJ9_max_7cf53_6 : decode cJ9_max_7cf53 6 = .ok (.goto 4, 3) := by decide +kernel
theorem dJ9_max_7cf53_9 : decode cJ9_max_7cf53 9 = .ok (.iload_n 1, 1) := by decide +kernel
theorem dJ9_max_7cf53_10 : decode cJ9_max_7cf53 10 = .ok (.ireturn, 1) := by decide +kernel
theorem dJ9_min_7cf53_0 : decode cJ9_min_7cf53 0 = .ok (.iload_n 0, 1) := by decide +kernel
theorem dJ9_min_7cf53_1 : decode cJ9_min_7cf53 1 = .ok (.iload_n 1, 1) := by decide +kernel
theorem dJ9_min_7cf53_2 : decode cJ9_min_7cf53 2 = .ok (.if_icmp .gt 7, 3) := by decide +kernel
theorem dJ9_min_7cf53_5 : decode cJ9_min_7cf53 5 = .ok (.iload_n 0, 1) := by decide +kernel
theorem dJ9_min_7cf53_6 : decode cJ9_min_7cf53 6 = .ok (.goto 4, 3) := by decide +kernel
theorem dJ9_min_7cf53_9 : decode cJ9_min_7cf53 9 = .ok (.iload_n 1, 1) := by decide +kernel
theorem dJ9_min_7cf53_10 : decode cJ9_min_7cf53 10 = .ok (.ireturn, 1) := by decide +kernel
theorem dJ7_fill_53178_0 : decode cJ7_fill_53178 0 = .ok (.iconst 0, 1) := by decide +kernel
theorem dJ7_fill_53178_1 : decode cJ7_fill_53178 1 = .ok (.istore_n 2, 1) := by decide +kernel
theorem dJ7_fill_53178_2 : decode cJ7_fill_53178 2 = .ok (.aload_n 0, 1) := by decide +kernel
theorem dJ7_fill_53178_3 : decode cJ7_fill_53178 3 = .ok (.arraylength, 1) := by decide +kernel
theorem dJ7_fill_53178_4 : decode cJ7_fill_53178 4 = .ok (.istore_n 3, 1) := by decide +kernel
theorem dJ7_fill_53178_5 : decode cJ7_fill_53178 5 = .ok (.iload_n 2, 1) := by decide +kernel
theorem dJ7_fill_53178_6 : decode cJ7_fill_53178 6 = .ok (.iload_n 3, 1) := by decide +kernel
theorem dJ7_fill_53178_7 : decode cJ7_fill_53178 7 = .ok (.if_icmp .ge 13, 3) := by decide +kernel
theorem dJ7_fill_53178_10 : decode cJ7_fill_53178 10 = .ok (.aload_n 0, 1) := by decide +kernel
theorem dJ7_fill_53178_11 : decode cJ7_fill_53178 11 = .ok (.iload_n 2, 1) := by decide +kernel
theorem dJ7_fill_53178_12 : decode cJ7_fill_53178 12 = .ok (.iload_n 1, 1) := by decide +kernel
theorem dJ7_fill_53178_13 : decode cJ7_fill_53178 13 = .ok (.iastore, 1) := by decide +kernel
theorem dJ7_fill_53178_14 : decode cJ7_fill_53178 14 = .ok (.iinc 2 1, 3) := by decide +kernel
theorem dJ7_fill_53178_17 : decode cJ7_fill_53178 17 = .ok (.goto (-12), 3) := by decide +kernel
theorem dJ7_fill_53178_20 : decode cJ7_fill_53178 20 = .ok (.return_, 1) := by decide +kernel
theorem dL_cell_0 : decode cL_cell 0 = .ok (.iload_n 1, 1) := by decide +kernel
theorem dL_cell_1 : decode cL_cell 1 = .ok (.aload_n 0, 1) := by decide +kernel
theorem dL_cell_2 : decode cL_cell 2 = .ok (.arraylength, 1) := by decide +kernel
theorem dL_cell_3 : decode cL_cell 3 = .ok (.if_icmp .ge 9, 3) := by decide +kernel
theorem dL_cell_6 : decode cL_cell 6 = .ok (.aload_n 0, 1) := by decide +kernel
theorem dL_cell_7 : decode cL_cell 7 = .ok (.iload_n 1, 1) := by decide +kernel
theorem dL_cell_8 : decode cL_cell 8 = .ok (.iaload, 1) := by decide +kernel
theorem dL_cell_9 : decode cL_cell 9 = .ok (.goto 4, 3) := by decide +kernel
theorem dL_cell_12 : decode cL_cell 12 = .ok (.iconst 0, 1) := by decide +kernel
theorem dL_cell_13 : decode cL_cell 13 = .ok (.ireturn, 1) := by decide +kernel
theorem dL_law_0 : decode cL_law 0 = .ok (.new 7, 3) := by decide +kernel
theorem dL_law_3 : decode cL_law 3 = .ok (.dup, 1) := by decide +kernel
theorem dL_law_4 : decode cL_law 4 = .ok (.aload_n 0, 1) := by decide +kernel
theorem dL_law_5 : decode cL_law 5 = .ok (.iconst 0, 1) := by decide +kernel
theorem dL_law_6 : decode cL_law 6 = .ok (.invokestatic 9, 3) := by decide +kernel
theorem dL_law_9 : decode cL_law 9 = .ok (.aload_n 0, 1) := by decide +kernel
theorem dL_law_10 : decode cL_law 10 = .ok (.iconst 1, 1) := by decide +kernel
theorem dL_law_11 : decode cL_law 11 = .ok (.invokestatic 9, 3) := by decide +kernel
theorem dL_law_14 : decode cL_law 14 = .ok (.invokespecial 15, 3) := by decide +kernel
theorem dL_law_17 : decode cL_law 17 = .ok (.astore_n 1, 1) := by decide +kernel
theorem dL_law_18 : decode cL_law 18 = .ok (.new 18, 3) := by decide +kernel
theorem dL_law_21 : decode cL_law 21 = .ok (.dup, 1) := by decide +kernel
theorem dL_law_22 : decode cL_law 22 = .ok (.aload_n 0, 1) := by decide +kernel
theorem dL_law_23 : decode cL_law 23 = .ok (.iconst 0, 1) := by decide +kernel
theorem dL_law_24 : decode cL_law 24 = .ok (.invokestatic 9, 3) := by decide +kernel
theorem dL_law_27 : decode cL_law 27 = .ok (.aload_n 0, 1) := by decide +kernel
theorem dL_law_28 : decode cL_law 28 = .ok (.iconst 1, 1) := by decide +kernel
theorem dL_law_29 : decode cL_law 29 = .ok (.invokestatic 9, 3) := by decide +kernel
theorem dL_law_32 : decode cL_law 32 = .ok (.invokespecial 20, 3) := by decide +kernel
theorem dL_law_35 : decode cL_law 35 = .ok (.astore_n 2, 1) := by decide +kernel
theorem dL_law_36 : decode cL_law 36 = .ok (.iconst 2, 1) := by decide +kernel
theorem dL_law_37 : decode cL_law 37 = .ok (.istore_n 3, 1) := by decide +kernel
theorem dL_law_38 : decode cL_law 38 = .ok (.iload_n 3, 1) := by decide +kernel
theorem dL_law_39 : decode cL_law 39 = .ok (.aload_n 0, 1) := by decide +kernel
theorem dL_law_40 : decode cL_law 40 = .ok (.arraylength, 1) := by decide +kernel
theorem dL_law_41 : decode cL_law 41 = .ok (.bipush 6, 2) := by decide +kernel
theorem dL_law_43 : decode cL_law 43 = .ok (.isub, 1) := by decide +kernel
theorem dL_law_44 : decode cL_law 44 = .ok (.if_icmp .gt 865, 3) := by decide +kernel
theorem dL_law_47 : decode cL_law 47 = .ok (.aload_n 0, 1) := by decide +kernel
theorem dL_law_48 : decode cL_law 48 = .ok (.iload_n 3, 1) := by decide +kernel
theorem dL_law_49 : decode cL_law 49 = .ok (.iaload, 1) := by decide +kernel
theorem dL_law_50 : decode cL_law 50 = .ok (.bipush 31, 2) := by decide +kernel
theorem dL_law_52 : decode cL_law 52 = .ok (.iand, 1) := by decide +kernel
theorem dL_law_53 : decode cL_law 53 = .ok (.tableswitch 850 0 20 #[99, 142, 165, 248, 301, 334, 377, 400, 413, 436, 449, 462, 511, 570, 593, 636, 679, 712, 761, 794, 827], 99) := by decide +kernel
theorem dL_law_152 : decode cL_law 152 = .ok (.aload_n 1, 1) := by decide +kernel
theorem dL_law_153 : decode cL_law 153 = .ok (.aload_n 0, 1) := by decide +kernel
theorem dL_law_154 : decode cL_law 154 = .ok (.iload_n 3, 1) := by decide +kernel
theorem dL_law_155 : decode cL_law 155 = .ok (.iconst 1, 1) := by decide +kernel
theorem dL_law_156 : decode cL_law 156 = .ok (.iadd, 1) := by decide +kernel
theorem dL_law_157 : decode cL_law 157 = .ok (.iaload, 1) := by decide +kernel
theorem dL_law_158 : decode cL_law 158 = .ok (.aload_n 0, 1) := by decide +kernel
theorem dL_law_159 : decode cL_law 159 = .ok (.iload_n 3, 1) := by decide +kernel
theorem dL_law_160 : decode cL_law 160 = .ok (.iconst 2, 1) := by decide +kernel
theorem dL_law_161 : decode cL_law 161 = .ok (.iadd, 1) := by decide +kernel
theorem dL_law_162 : decode cL_law 162 = .ok (.iaload, 1) := by decide +kernel
theorem dL_law_163 : decode cL_law 163 = .ok (.aload_n 0, 1) := by decide +kernel
theorem dL_law_164 : decode cL_law 164 = .ok (.iload_n 3, 1) := by decide +kernel
theorem dL_law_165 : decode cL_law 165 = .ok (.iconst 3, 1) := by decide +kernel
theorem dL_law_166 : decode cL_law 166 = .ok (.iadd, 1) := by decide +kernel
theorem dL_law_167 : decode cL_law 167 = .ok (.iaload, 1) := by decide +kernel
theorem dL_law_168 : decode cL_law 168 = .ok (.invokevirtual 21, 3) := by decide +kernel
theorem dL_law_171 : decode cL_law 171 = .ok (.aload_n 2, 1) := by decide +kernel
theorem dL_law_172 : decode cL_law 172 = .ok (.aload_n 0, 1) := by decide +kernel
theorem dL_law_173 : decode cL_law 173 = .ok (.iload_n 3, 1) := by decide +kernel
theorem dL_law_174 : decode cL_law 174 = .ok (.iconst 1, 1) := by decide +kernel
theorem dL_law_175 : decode cL_law 175 = .ok (.iadd, 1) := by decide +kernel
theorem dL_law_176 : decode cL_law 176 = .ok (.iaload, 1) := by decide +kernel
theorem dL_law_177 : decode cL_law 177 = .ok (.aload_n 0, 1) := by decide +kernel
theorem dL_law_178 : decode cL_law 178 = .ok (.iload_n 3, 1) := by decide +kernel
theorem dL_law_179 : decode cL_law 179 = .ok (.iconst 2, 1) := by decide +kernel
theorem dL_law_180 : decode cL_law 180 = .ok (.iadd, 1) := by decide +kernel
theorem dL_law_181 : decode cL_law 181 = .ok (.iaload, 1) := by decide +kernel
theorem dL_law_182 : decode cL_law 182 = .ok (.aload_n 0, 1) := by decide +kernel
theorem dL_law_183 : decode cL_law 183 = .ok (.iload_n 3, 1) := by decide +kernel
theorem dL_law_184 : decode cL_law 184 = .ok (.iconst 3, 1) := by decide +kernel
theorem dL_law_185 : decode cL_law 185 = .ok (.iadd, 1) := by decide +kernel
theorem dL_law_186 : decode cL_law 186 = .ok (.iaload, 1) := by decide +kernel
theorem dL_law_187 : decode cL_law 187 = .ok (.invokevirtual 25, 3) := by decide +kernel
theorem dL_law_190 : decode cL_law 190 = .ok (.if_icmp .eq 713, 3) := by decide +kernel
theorem dL_law_193 : decode cL_law 193 = .ok (.iconst 0, 1) := by decide +kernel
theorem dL_law_194 : decode cL_law 194 = .ok (.ireturn, 1) := by decide +kernel
theorem dL_law_195 : decode cL_law 195 = .ok (.aload_n 1, 1) := by decide +kernel
theorem dL_law_196 : decode cL_law 196 = .ok (.aload_n 0, 1) := by decide +kernel
theorem dL_law_197 : decode cL_law 197 = .ok (.iload_n 3, 1) := by decide +kernel
theorem dL_law_198 : decode cL_law 198 = .ok (.iconst 1, 1) := by decide +kernel
theorem dL_law_199 : decode cL_law 199 = .ok (.iadd, 1) := by decide +kernel
theorem dL_law_200 : decode cL_law 200 = .ok (.iaload, 1) := by decide +kernel
theorem dL_law_201 : decode cL_law 201 = .ok (.invokevirtual 26, 3) := by decide +kernel
theorem dL_law_204 : decode cL_law 204 = .ok (.aload_n 2, 1) := by decide +kernel
theorem dL_law_205 : decode cL_law 205 = .ok (.aload_n 0, 1) := by decide +kernel
theorem dL_law_206 : decode cL_law 206 = .ok (.iload_n 3, 1) := by decide +kernel
theorem dL_law_207 : decode cL_law 207 = .ok (.iconst 1, 1) := by decide +kernel
theorem dL_law_208 : decode cL_law 208 = .ok (.iadd, 1) := by decide +kernel
theorem dL_law_209 : decode cL_law 209 = .ok (.iaload, 1) := by decide +kernel
theorem dL_law_210 : decode cL_law 210 = .ok (.invokevirtual 30, 3) := by decide +kernel
theorem dL_law_213 : decode cL_law 213 = .ok (.if_icmp .eq 690, 3) := by decide +kernel
theorem dL_law_216 : decode cL_law 216 = .ok (.iconst 0, 1) := by decide +kernel
theorem dL_law_217 : decode cL_law 217 = .ok (.ireturn, 1) := by decide +kernel
theorem dL_law_218 : decode cL_law 218 = .ok (.aload_n 1, 1) := by decide +kernel
theorem dL_law_219 : decode cL_law 219 = .ok (.aload_n 0, 1) := by decide +kernel
theorem dL_law_220 : decode cL_law 220 = .ok (.iload_n 3, 1) := by decide +kernel
theorem dL_law_221 : decode cL_law 221 = .ok (.iconst 1, 1) := by decide +kernel
theorem dL_law_222 : decode cL_law 222 = .ok (.iadd, 1) := by decide +kernel
theorem dL_law_223 : decode cL_law 223 = .ok (.iaload, 1) := by decide +kernel
theorem dL_law_224 : decode cL_law 224 = .ok (.aload_n 0, 1) := by decide +kernel
theorem dL_law_225 : decode cL_law 225 = .ok (.iload_n 3, 1) := by decide +kernel
theorem dL_law_226 : decode cL_law 226 = .ok (.iconst 2, 1) := by decide +kernel
theorem dL_law_227 : decode cL_law 227 = .ok (.iadd, 1) := by decide +kernel
theorem dL_law_228 : decode cL_law 228 = .ok (.iaload, 1) := by decide +kernel
theorem dL_law_229 : decode cL_law 229 = .ok (.aload_n 0, 1) := by decide +kernel
theorem dL_law_230 : decode cL_law 230 = .ok (.iload_n 3, 1) := by decide +kernel
theorem dL_law_231 : decode cL_law 231 = .ok (.iconst 3, 1) := by decide +kernel
theorem dL_law_232 : decode cL_law 232 = .ok (.iadd, 1) := by decide +kernel
theorem dL_law_233 : decode cL_law 233 = .ok (.iaload, 1) := by decide +kernel
theorem dL_law_234 : decode cL_law 234 = .ok (.i2l, 1) := by decide +kernel
theorem dL_law_235 : decode cL_law 235 = .ok (.bipush 32, 2) := by decide +kernel
theorem dL_law_237 : decode cL_law 237 = .ok (.lshl, 1) := by decide +kernel
theorem dL_law_238 : decode cL_law 238 = .ok (.aload_n 0, 1) := by decide +kernel
theorem dL_law_239 : decode cL_law 239 = .ok (.iload_n 3, 1) := by decide +kernel
theorem dL_law_240 : decode cL_law 240 = .ok (.iconst 4, 1) := by decide +kernel
theorem dL_law_241 : decode cL_law 241 = .ok (.iadd, 1) := by decide +kernel
theorem dL_law_242 : decode cL_law 242 = .ok (.iaload, 1) := by decide +kernel
theorem dL_law_243 : decode cL_law 243 = .ok (.i2l, 1) := by decide +kernel
theorem dL_law_244 : decode cL_law 244 = .ok (.ldc2_w 31, 3) := by decide +kernel
theorem dL_law_247 : decode cL_law 247 = .ok (.land, 1) := by decide +kernel
theorem dL_law_248 : decode cL_law 248 = .ok (.lor, 1) := by decide +kernel
theorem dL_law_249 : decode cL_law 249 = .ok (.aload_n 0, 1) := by decide +kernel
theorem dL_law_250 : decode cL_law 250 = .ok (.iload_n 3, 1) := by decide +kernel
theorem dL_law_251 : decode cL_law 251 = .ok (.iconst 5, 1) := by decide +kernel
theorem dL_law_252 : decode cL_law 252 = .ok (.iadd, 1) := by decide +kernel
theorem dL_law_253 : decode cL_law 253 = .ok (.iaload, 1) := by decide +kernel
theorem dL_law_254 : decode cL_law 254 = .ok (.invokevirtual 33, 3) := by decide +kernel
theorem dL_law_257 : decode cL_law 257 = .ok (.aload_n 2, 1) := by decide +kernel
theorem dL_law_258 : decode cL_law 258 = .ok (.aload_n 0, 1) := by decide +kernel
theorem dL_law_259 : decode cL_law 259 = .ok (.iload_n 3, 1) := by decide +kernel
theorem dL_law_260 : decode cL_law 260 = .ok (.iconst 1, 1) := by decide +kernel
theorem dL_law_261 : decode cL_law 261 = .ok (.iadd, 1) := by decide +kernel
theorem dL_law_262 : decode cL_law 262 = .ok (.iaload, 1) := by decide +kernel
theorem dL_law_263 : decode cL_law 263 = .ok (.aload_n 0, 1) := by decide +kernel
theorem dL_law_264 : decode cL_law 264 = .ok (.iload_n 3, 1) := by decide +kernel
theorem dL_law_265 : decode cL_law 265 = .ok (.iconst 2, 1) := by decide +kernel
theorem dL_law_266 : decode cL_law 266 = .ok (.iadd, 1) := by decide +kernel
theorem dL_law_267 : decode cL_law 267 = .ok (.iaload, 1) := by decide +kernel
theorem dL_law_268 : decode cL_law 268 = .ok (.aload_n 0, 1) := by decide +kernel
theorem dL_law_269 : decode cL_law 269 = .ok (.iload_n 3, 1) := by decide +kernel
theorem dL_law_270 : decode cL_law 270 = .ok (.iconst 3, 1) := by decide +kernel
theorem dL_law_271 : decode cL_law 271 = .ok (.iadd, 1) := by decide +kernel
theorem dL_law_272 : decode cL_law 272 = .ok (.iaload, 1) := by decide +kernel
theorem dL_law_273 : decode cL_law 273 = .ok (.i2l, 1) := by decide +kernel
theorem dL_law_274 : decode cL_law 274 = .ok (.bipush 32, 2) := by decide +kernel
theorem dL_law_276 : decode cL_law 276 = .ok (.lshl, 1) := by decide +kernel
theorem dL_law_277 : decode cL_law 277 = .ok (.aload_n 0, 1) := by decide +kernel
theorem dL_law_278 : decode cL_law 278 = .ok (.iload_n 3, 1) := by decide +kernel
theorem dL_law_279 : decode cL_law 279 = .ok (.iconst 4, 1) := by decide +kernel
theorem dL_law_280 : decode cL_law 280 = .ok (.iadd, 1) := by decide +kernel
theorem dL_law_281 : decode cL_law 281 = .ok (.iaload, 1) := by decide +kernel
theorem dL_law_282 : decode cL_law 282 = .ok (.i2l, 1) := by decide +kernel
theorem dL_law_283 : decode cL_law 283 = .ok (.ldc2_w 31, 3) := by decide +kernel
theorem dL_law_286 : decode cL_law 286 = .ok (.land, 1) := by decide +kernel
theorem dL_law_287 : decode cL_law 287 = .ok (.lor, 1) := by decide +kernel
theorem dL_law_288 : decode cL_law 288 = .ok (.aload_n 0, 1) := by decide +kernel
theorem dL_law_289 : decode cL_law 289 = .ok (.iload_n 3, 1) := by decide +kernel
theorem dL_law_290 : decode cL_law 290 = .ok (.iconst 5, 1) := by decide +kernel
theorem dL_law_291 : decode cL_law 291 = .ok (.iadd, 1) := by decide +kernel
theorem dL_law_292 : decode cL_law 292 = .ok (.iaload, 1) := by decide +kernel
theorem dL_law_293 : decode cL_law 293 = .ok (.invokevirtual 37, 3) := by decide +kernel
theorem dL_law_296 : decode cL_law 296 = .ok (.if_icmp .eq 607, 3) := by decide +kernel
theorem dL_law_299 : decode cL_law 299 = .ok (.iconst 0, 1) := by decide +kernel
theorem dL_law_300 : decode cL_law 300 = .ok (.ireturn, 1) := by decide +kernel
theorem dL_law_301 : decode cL_law 301 = .ok (.aload_n 1, 1) := by decide +kernel
theorem dL_law_302 : decode cL_law 302 = .ok (.aload_n 0, 1) := by decide +kernel
theorem dL_law_303 : decode cL_law 303 = .ok (.iload_n 3, 1) := by decide +kernel
theorem dL_law_304 : decode cL_law 304 = .ok (.iconst 1, 1) := by decide +kernel
theorem dL_law_305 : decode cL_law 305 = .ok (.iadd, 1) := by decide +kernel
theorem dL_law_306 : decode cL_law 306 = .ok (.iaload, 1) := by decide +kernel
theorem dL_law_307 : decode cL_law 307 = .ok (.aload_n 0, 1) := by decide +kernel
theorem dL_law_308 : decode cL_law 308 = .ok (.iload_n 3, 1) := by decide +kernel
theorem dL_law_309 : decode cL_law 309 = .ok (.iconst 2, 1) := by decide +kernel
theorem dL_law_310 : decode cL_law 310 = .ok (.iadd, 1) := by decide +kernel
theorem dL_law_311 : decode cL_law 311 = .ok (.iaload, 1) := by decide +kernel
theorem dL_law_312 : decode cL_law 312 = .ok (.aload_n 0, 1) := by decide +kernel
theorem dL_law_313 : decode cL_law 313 = .ok (.iload_n 3, 1) := by decide +kernel
theorem dL_law_314 : decode cL_law 314 = .ok (.iconst 3, 1) := by decide +kernel
theorem dL_law_315 : decode cL_law 315 = .ok (.iadd, 1) := by decide +kernel
theorem dL_law_316 : decode cL_law 316 = .ok (.iaload, 1) := by decide +kernel
theorem dL_law_317 : decode cL_law 317 = .ok (.aload_n 0, 1) := by decide +kernel
theorem dL_law_318 : decode cL_law 318 = .ok (.iload_n 3, 1) := by decide +kernel
theorem dL_law_319 : decode cL_law 319 = .ok (.iconst 4, 1) := by decide +kernel
theorem dL_law_320 : decode cL_law 320 = .ok (.iadd, 1) := by decide +kernel
theorem dL_law_321 : decode cL_law 321 = .ok (.iaload, 1) := by decide +kernel
theorem dL_law_322 : decode cL_law 322 = .ok (.invokevirtual 38, 3) := by decide +kernel
theorem dL_law_325 : decode cL_law 325 = .ok (.aload_n 2, 1) := by decide +kernel
theorem dL_law_326 : decode cL_law 326 = .ok (.aload_n 0, 1) := by decide +kernel
theorem dL_law_327 : decode cL_law 327 = .ok (.iload_n 3, 1) := by decide +kernel
theorem dL_law_328 : decode cL_law 328 = .ok (.iconst 1, 1) := by decide +kernel
theorem dL_law_329 : decode cL_law 329 = .ok (.iadd, 1) := by decide +kernel
theorem dL_law_330 : decode cL_law 330 = .ok (.iaload, 1) := by decide +kernel
theorem dL_law_331 : decode cL_law 331 = .ok (.aload_n 0, 1) := by decide +kernel
theorem dL_law_332 : decode cL_law 332 = .ok (.iload_n 3, 1) := by decide +kernel
theorem dL_law_333 : decode cL_law 333 = .ok (.iconst 2, 1) := by decide +kernel
theorem dL_law_334 : decode cL_law 334 = .ok (.iadd, 1) := by decide +kernel
theorem dL_law_335 : decode cL_law 335 = .ok (.iaload, 1) := by decide +kernel
theorem dL_law_336 : decode cL_law 336 = .ok (.aload_n 0, 1) := by decide +kernel
theorem dL_law_337 : decode cL_law 337 = .ok (.iload_n 3, 1) := by decide +kernel
theorem dL_law_338 : decode cL_law 338 = .ok (.iconst 3, 1) := by decide +kernel
theorem dL_law_339 : decode cL_law 339 = .ok (.iadd, 1) := by decide +kernel
theorem dL_law_340 : decode cL_law 340 = .ok (.iaload, 1) := by decide +kernel
theorem dL_law_341 : decode cL_law 341 = .ok (.aload_n 0, 1) := by decide +kernel
theorem dL_law_342 : decode cL_law 342 = .ok (.iload_n 3, 1) := by decide +kernel
theorem dL_law_343 : decode cL_law 343 = .ok (.iconst 4, 1) := by decide +kernel
theorem dL_law_344 : decode cL_law 344 = .ok (.iadd, 1) := by decide +kernel
theorem dL_law_345 : decode cL_law 345 = .ok (.iaload, 1) := by decide +kernel
theorem dL_law_346 : decode cL_law 346 = .ok (.invokevirtual 42, 3) := by decide +kernel
theorem dL_law_349 : decode cL_law 349 = .ok (.if_icmp .eq 554, 3) := by decide +kernel
theorem dL_law_352 : decode cL_law 352 = .ok (.iconst 0, 1) := by decide +kernel
theorem dL_law_353 : decode cL_law 353 = .ok (.ireturn, 1) := by decide +kernel
theorem dL_law_354 : decode cL_law 354 = .ok (.aload_n 1, 1) := by decide +kernel
theorem dL_law_355 : decode cL_law 355 = .ok (.aload_n 0, 1) := by decide +kernel
theorem dL_law_356 : decode cL_law 356 = .ok (.iload_n 3, 1) := by decide +kernel
theorem dL_law_357 : decode cL_law 357 = .ok (.iconst 1, 1) := by decide +kernel
theorem dL_law_358 : decode cL_law 358 = .ok (.iadd, 1) := by decide +kernel
theorem dL_law_359 : decode cL_law 359 = .ok (.iaload, 1) := by decide +kernel
theorem dL_law_360 : decode cL_law 360 = .ok (.aload_n 0, 1) := by decide +kernel
theorem dL_law_361 : decode cL_law 361 = .ok (.iload_n 3, 1) := by decide +kernel
theorem dL_law_362 : decode cL_law 362 = .ok (.iconst 2, 1) := by decide +kernel
theorem dL_law_363 : decode cL_law 363 = .ok (.iadd, 1) := by decide +kernel
theorem dL_law_364 : decode cL_law 364 = .ok (.iaload, 1) := by decide +kernel
theorem dL_law_365 : decode cL_law 365 = .ok (.invokevirtual 43, 3) := by decide +kernel
theorem dL_law_368 : decode cL_law 368 = .ok (.aload_n 2, 1) := by decide +kernel
theorem dL_law_369 : decode cL_law 369 = .ok (.aload_n 0, 1) := by decide +kernel
theorem dL_law_370 : decode cL_law 370 = .ok (.iload_n 3, 1) := by decide +kernel
theorem dL_law_371 : decode cL_law 371 = .ok (.iconst 1, 1) := by decide +kernel
theorem dL_law_372 : decode cL_law 372 = .ok (.iadd, 1) := by decide +kernel
theorem dL_law_373 : decode cL_law 373 = .ok (.iaload, 1) := by decide +kernel
theorem dL_law_374 : decode cL_law 374 = .ok (.aload_n 0, 1) := by decide +kernel
theorem dL_law_375 : decode cL_law 375 = .ok (.iload_n 3, 1) := by decide +kernel
theorem dL_law_376 : decode cL_law 376 = .ok (.iconst 2, 1) := by decide +kernel
theorem dL_law_377 : decode cL_law 377 = .ok (.iadd, 1) := by decide +kernel
theorem dL_law_378 : decode cL_law 378 = .ok (.iaload, 1) := by decide +kernel
theorem dL_law_379 : decode cL_law 379 = .ok (.invokevirtual 47, 3) := by decide +kernel
theorem dL_law_382 : decode cL_law 382 = .ok (.if_icmp .eq 521, 3) := by decide +kernel
theorem dL_law_385 : decode cL_law 385 = .ok (.iconst 0, 1) := by decide +kernel
theorem dL_law_386 : decode cL_law 386 = .ok (.ireturn, 1) := by decide +kernel
theorem dL_law_387 : decode cL_law 387 = .ok (.aload_n 1, 1) := by decide +kernel
theorem dL_law_388 : decode cL_law 388 = .ok (.aload_n 0, 1) := by decide +kernel
theorem dL_law_389 : decode cL_law 389 = .ok (.iload_n 3, 1) := by decide +kernel
theorem dL_law_390 : decode cL_law 390 = .ok (.iconst 1, 1) := by decide +kernel
theorem dL_law_391 : decode cL_law 391 = .ok (.iadd, 1) := by decide +kernel
theorem dL_law_392 : decode cL_law 392 = .ok (.iaload, 1) := by decide +kernel
theorem dL_law_393 : decode cL_law 393 = .ok (.aload_n 0, 1) := by decide +kernel
theorem dL_law_394 : decode cL_law 394 = .ok (.iload_n 3, 1) := by decide +kernel
theorem dL_law_395 : decode cL_law 395 = .ok (.iconst 2, 1) := by decide +kernel
theorem dL_law_396 : decode cL_law 396 = .ok (.iadd, 1) := by decide +kernel
theorem dL_law_397 : decode cL_law 397 = .ok (.iaload, 1) := by decide +kernel
theorem dL_law_398 : decode cL_law 398 = .ok (.aload_n 0, 1) := by decide +kernel
theorem dL_law_399 : decode cL_law 399 = .ok (.iload_n 3, 1) := by decide +kernel
theorem dL_law_400 : decode cL_law 400 = .ok (.iconst 3, 1) := by decide +kernel
theorem dL_law_401 : decode cL_law 401 = .ok (.iadd, 1) := by decide +kernel
theorem dL_law_402 : decode cL_law 402 = .ok (.iaload, 1) := by decide +kernel
theorem dL_law_403 : decode cL_law 403 = .ok (.invokevirtual 48, 3) := by decide +kernel
theorem dL_law_406 : decode cL_law 406 = .ok (.aload_n 2, 1) := by decide +kernel
theorem dL_law_407 : decode cL_law 407 = .ok (.aload_n 0, 1) := by decide +kernel
theorem dL_law_408 : decode cL_law 408 = .ok (.iload_n 3, 1) := by decide +kernel
theorem dL_law_409 : decode cL_law 409 = .ok (.iconst 1, 1) := by decide +kernel
theorem dL_law_410 : decode cL_law 410 = .ok (.iadd, 1) := by decide +kernel
theorem dL_law_411 : decode cL_law 411 = .ok (.iaload, 1) := by decide +kernel
theorem dL_law_412 : decode cL_law 412 = .ok (.aload_n 0, 1) := by decide +kernel
theorem dL_law_413 : decode cL_law 413 = .ok (.iload_n 3, 1) := by decide +kernel
theorem dL_law_414 : decode cL_law 414 = .ok (.iconst 2, 1) := by decide +kernel
theorem dL_law_415 : decode cL_law 415 = .ok (.iadd, 1) := by decide +kernel
theorem dL_law_416 : decode cL_law 416 = .ok (.iaload, 1) := by decide +kernel
theorem dL_law_417 : decode cL_law 417 = .ok (.aload_n 0, 1) := by decide +kernel
theorem dL_law_418 : decode cL_law 418 = .ok (.iload_n 3, 1) := by decide +kernel
theorem dL_law_419 : decode cL_law 419 = .ok (.iconst 3, 1) := by decide +kernel
theorem dL_law_420 : decode cL_law 420 = .ok (.iadd, 1) := by decide +kernel
theorem dL_law_421 : decode cL_law 421 = .ok (.iaload, 1) := by decide +kernel
theorem dL_law_422 : decode cL_law 422 = .ok (.invokevirtual 51, 3) := by decide +kernel
theorem dL_law_425 : decode cL_law 425 = .ok (.if_icmp .eq 478, 3) := by decide +kernel
theorem dL_law_428 : decode cL_law 428 = .ok (.iconst 0, 1) := by decide +kernel
theorem dL_law_429 : decode cL_law 429 = .ok (.ireturn, 1) := by decide +kernel
theorem dL_law_430 : decode cL_law 430 = .ok (.aload_n 1, 1) := by decide +kernel
theorem dL_law_431 : decode cL_law 431 = .ok (.aload_n 0, 1) := by decide +kernel
theorem dL_law_432 : decode cL_law 432 = .ok (.iload_n 3, 1) := by decide +kernel
theorem dL_law_433 : decode cL_law 433 = .ok (.iconst 1, 1) := by decide +kernel
theorem dL_law_434 : decode cL_law 434 = .ok (.iadd, 1) := by decide +kernel
theorem dL_law_435 : decode cL_law 435 = .ok (.iaload, 1) := by decide +kernel
theorem dL_law_436 : decode cL_law 436 = .ok (.invokevirtual 52, 3) := by decide +kernel
theorem dL_law_439 : decode cL_law 439 = .ok (.aload_n 2, 1) := by decide +kernel
theorem dL_law_440 : decode cL_law 440 = .ok (.aload_n 0, 1) := by decide +kernel
theorem dL_law_441 : decode cL_law 441 = .ok (.iload_n 3, 1) := by decide +kernel
theorem dL_law_442 : decode cL_law 442 = .ok (.iconst 1, 1) := by decide +kernel
theorem dL_law_443 : decode cL_law 443 = .ok (.iadd, 1) := by decide +kernel
theorem dL_law_444 : decode cL_law 444 = .ok (.iaload, 1) := by decide +kernel
theorem dL_law_445 : decode cL_law 445 = .ok (.invokevirtual 55, 3) := by decide +kernel
theorem dL_law_448 : decode cL_law 448 = .ok (.if_icmp .eq 455, 3) := by decide +kernel
theorem dL_law_451 : decode cL_law 451 = .ok (.iconst 0, 1) := by decide +kernel
theorem dL_law_452 : decode cL_law 452 = .ok (.ireturn, 1) := by decide +kernel
theorem dL_law_453 : decode cL_law 453 = .ok (.aload_n 1, 1) := by decide +kernel
theorem dL_law_454 : decode cL_law 454 = .ok (.invokevirtual 56, 3) := by decide +kernel
theorem dL_law_457 : decode cL_law 457 = .ok (.aload_n 2, 1) := by decide +kernel
theorem dL_law_458 : decode cL_law 458 = .ok (.invokevirtual 60, 3) := by decide +kernel
theorem dL_law_461 : decode cL_law 461 = .ok (.if_icmp .eq 442, 3) := by decide +kernel
theorem dL_law_464 : decode cL_law 464 = .ok (.iconst 0, 1) := by decide +kernel
theorem dL_law_465 : decode cL_law 465 = .ok (.ireturn, 1) := by decide +kernel
theorem dL_law_466 : decode cL_law 466 = .ok (.aload_n 1, 1) := by decide +kernel
theorem dL_law_467 : decode cL_law 467 = .ok (.aload_n 0, 1) := by decide +kernel
theorem dL_law_468 : decode cL_law 468 = .ok (.iload_n 3, 1) := by decide +kernel
theorem dL_law_469 : decode cL_law 469 = .ok (.iconst 1, 1) := by decide +kernel
theorem dL_law_470 : decode cL_law 470 = .ok (.iadd, 1) := by decide +kernel
theorem dL_law_471 : decode cL_law 471 = .ok (.iaload, 1) := by decide +kernel
theorem dL_law_472 : decode cL_law 472 = .ok (.invokevirtual 61, 3) := by decide +kernel
theorem dL_law_475 : decode cL_law 475 = .ok (.aload_n 2, 1) := by decide +kernel
theorem dL_law_476 : decode cL_law 476 = .ok (.aload_n 0, 1) := by decide +kernel
theorem dL_law_477 : decode cL_law 477 = .ok (.iload_n 3, 1) := by decide +kernel
theorem dL_law_478 : decode cL_law 478 = .ok (.iconst 1, 1) := by decide +kernel
theorem dL_law_479 : decode cL_law 479 = .ok (.iadd, 1) := by decide +kernel
theorem dL_law_480 : decode cL_law 480 = .ok (.iaload, 1) := by decide +kernel
theorem dL_law_481 : decode cL_law 481 = .ok (.invokevirtual 64, 3) := by decide +kernel
theorem dL_law_484 : decode cL_law 484 = .ok (.if_icmp .eq 419, 3) := by decide +kernel
theorem dL_law_487 : decode cL_law 487 = .ok (.iconst 0, 1) := by decide +kernel
theorem dL_law_488 : decode cL_law 488 = .ok (.ireturn, 1) := by decide +kernel
theorem dL_law_489 : decode cL_law 489 = .ok (.aload_n 1, 1) := by decide +kernel
theorem dL_law_490 : decode cL_law 490 = .ok (.invokevirtual 65, 3) := by decide +kernel
theorem dL_law_493 : decode cL_law 493 = .ok (.aload_n 2, 1) := by decide +kernel
theorem dL_law_494 : decode cL_law 494 = .ok (.invokevirtual 68, 3) := by decide +kernel
theorem dL_law_497 : decode cL_law 497 = .ok (.if_icmp .eq 406, 3) := by decide +kernel
theorem dL_law_500 : decode cL_law 500 = .ok (.iconst 0, 1) := by decide +kernel
theorem dL_law_501 : decode cL_law 501 = .ok (.ireturn, 1) := by decide +kernel
theorem dL_law_502 : decode cL_law 502 = .ok (.aload_n 1, 1) := by decide +kernel
theorem dL_law_503 : decode cL_law 503 = .ok (.invokevirtual 69, 3) := by decide +kernel
theorem dL_law_506 : decode cL_law 506 = .ok (.aload_n 2, 1) := by decide +kernel
theorem dL_law_507 : decode cL_law 507 = .ok (.invokevirtual 72, 3) := by decide +kernel
theorem dL_law_510 : decode cL_law 510 = .ok (.if_icmp .eq 393, 3) := by decide +kernel
theorem dL_law_513 : decode cL_law 513 = .ok (.iconst 0, 1) := by decide +kernel
theorem dL_law_514 : decode cL_law 514 = .ok (.ireturn, 1) := by decide +kernel
theorem dL_law_515 : decode cL_law 515 = .ok (.aload_n 1, 1) := by decide +kernel
theorem dL_law_516 : decode cL_law 516 = .ok (.aload_n 0, 1) := by decide +kernel
theorem dL_law_517 : decode cL_law 517 = .ok (.iload_n 3, 1) := by decide +kernel
theorem dL_law_518 : decode cL_law 518 = .ok (.iconst 1, 1) := by decide +kernel
theorem dL_law_519 : decode cL_law 519 = .ok (.iadd, 1) := by decide +kernel
theorem dL_law_520 : decode cL_law 520 = .ok (.iaload, 1) := by decide +kernel
theorem dL_law_521 : decode cL_law 521 = .ok (.aload_n 0, 1) := by decide +kernel
theorem dL_law_522 : decode cL_law 522 = .ok (.iload_n 3, 1) := by decide +kernel
theorem dL_law_523 : decode cL_law 523 = .ok (.iconst 2, 1) := by decide +kernel
theorem dL_law_524 : decode cL_law 524 = .ok (.iadd, 1) := by decide +kernel
theorem dL_law_525 : decode cL_law 525 = .ok (.iaload, 1) := by decide +kernel
theorem dL_law_526 : decode cL_law 526 = .ok (.ifCond .eq 7, 3) := by decide +kernel
theorem dL_law_529 : decode cL_law 529 = .ok (.iconst 1, 1) := by decide +kernel
theorem dL_law_530 : decode cL_law 530 = .ok (.goto 4, 3) := by decide +kernel
theorem dL_law_533 : decode cL_law 533 = .ok (.iconst 0, 1) := by decide +kernel
theorem dL_law_534 : decode cL_law 534 = .ok (.invokevirtual 73, 3) := by decide +kernel
theorem dL_law_537 : decode cL_law 537 = .ok (.aload_n 2, 1) := by decide +kernel
theorem dL_law_538 : decode cL_law 538 = .ok (.aload_n 0, 1) := by decide +kernel
theorem dL_law_539 : decode cL_law 539 = .ok (.iload_n 3, 1) := by decide +kernel
theorem dL_law_540 : decode cL_law 540 = .ok (.iconst 1, 1) := by decide +kernel
theorem dL_law_541 : decode cL_law 541 = .ok (.iadd, 1) := by decide +kernel
theorem dL_law_542 : decode cL_law 542 = .ok (.iaload, 1) := by decide +kernel
theorem dL_law_543 : decode cL_law 543 = .ok (.aload_n 0, 1) := by decide +kernel
theorem dL_law_544 : decode cL_law 544 = .ok (.iload_n 3, 1) := by decide +kernel
theorem dL_law_545 : decode cL_law 545 = .ok (.iconst 2, 1) := by decide +kernel
theorem dL_law_546 : decode cL_law 546 = .ok (.iadd, 1) := by decide +kernel
theorem dL_law_547 : decode cL_law 547 = .ok (.iaload, 1) := by decide +kernel
theorem dL_law_548 : decode cL_law 548 = .ok (.ifCond .eq 7, 3) := by decide +kernel
theorem dL_law_551 : decode cL_law 551 = .ok (.iconst 1, 1) := by decide +kernel
theorem dL_law_552 : decode cL_law 552 = .ok (.goto 4, 3) := by decide +kernel
theorem dL_law_555 : decode cL_law 555 = .ok (.iconst 0, 1) := by decide +kernel
theorem dL_law_556 : decode cL_law 556 = .ok (.invokevirtual 77, 3) := by decide +kernel
theorem dL_law_559 : decode cL_law 559 = .ok (.if_icmp .eq 344, 3) := by decide +kernel
theorem dL_law_562 : decode cL_law 562 = .ok (.iconst 0, 1) := by decide +kernel
theorem dL_law_563 : decode cL_law 563 = .ok (.ireturn, 1) := by decide +kernel
theorem dL_law_564 : decode cL_law 564 = .ok (.aload_n 1, 1) := by decide +kernel
theorem dL_law_565 : decode cL_law 565 = .ok (.aload_n 0, 1) := by decide +kernel
theorem dL_law_566 : decode cL_law 566 = .ok (.iload_n 3, 1) := by decide +kernel
theorem dL_law_567 : decode cL_law 567 = .ok (.iconst 1, 1) := by decide +kernel
theorem dL_law_568 : decode cL_law 568 = .ok (.iadd, 1) := by decide +kernel
theorem dL_law_569 : decode cL_law 569 = .ok (.iaload, 1) := by decide +kernel
theorem dL_law_570 : decode cL_law 570 = .ok (.aload_n 0, 1) := by decide +kernel
theorem dL_law_571 : decode cL_law 571 = .ok (.iload_n 3, 1) := by decide +kernel
theorem dL_law_572 : decode cL_law 572 = .ok (.iconst 2, 1) := by decide +kernel
theorem dL_law_573 : decode cL_law 573 = .ok (.iadd, 1) := by decide +kernel
theorem dL_law_574 : decode cL_law 574 = .ok (.iaload, 1) := by decide +kernel
theorem dL_law_575 : decode cL_law 575 = .ok (.aload_n 0, 1) := by decide +kernel
theorem dL_law_576 : decode cL_law 576 = .ok (.iload_n 3, 1) := by decide +kernel
theorem dL_law_577 : decode cL_law 577 = .ok (.iconst 3, 1) := by decide +kernel
theorem dL_law_578 : decode cL_law 578 = .ok (.iadd, 1) := by decide +kernel
theorem dL_law_579 : decode cL_law 579 = .ok (.iaload, 1) := by decide +kernel
theorem dL_law_580 : decode cL_law 580 = .ok (.ifCond .eq 7, 3) := by decide +kernel
theorem dL_law_583 : decode cL_law 583 = .ok (.iconst 1, 1) := by decide +kernel
theorem dL_law_584 : decode cL_law 584 = .ok (.goto 4, 3) := by decide +kernel
theorem dL_law_587 : decode cL_law 587 = .ok (.iconst 0, 1) := by decide +kernel
theorem dL_law_588 : decode cL_law 588 = .ok (.invokevirtual 78, 3) := by decide +kernel
theorem dL_law_591 : decode cL_law 591 = .ok (.aload_n 2, 1) := by decide +kernel
theorem dL_law_592 : decode cL_law 592 = .ok (.aload_n 0, 1) := by decide +kernel
theorem dL_law_593 : decode cL_law 593 = .ok (.iload_n 3, 1) := by decide +kernel
theorem dL_law_594 : decode cL_law 594 = .ok (.iconst 1, 1) := by decide +kernel
theorem dL_law_595 : decode cL_law 595 = .ok (.iadd, 1) := by decide +kernel
theorem dL_law_596 : decode cL_law 596 = .ok (.iaload, 1) := by decide +kernel
theorem dL_law_597 : decode cL_law 597 = .ok (.aload_n 0, 1) := by decide +kernel
theorem dL_law_598 : decode cL_law 598 = .ok (.iload_n 3, 1) := by decide +kernel
theorem dL_law_599 : decode cL_law 599 = .ok (.iconst 2, 1) := by decide +kernel
theorem dL_law_600 : decode cL_law 600 = .ok (.iadd, 1) := by decide +kernel
theorem dL_law_601 : decode cL_law 601 = .ok (.iaload, 1) := by decide +kernel
theorem dL_law_602 : decode cL_law 602 = .ok (.aload_n 0, 1) := by decide +kernel
theorem dL_law_603 : decode cL_law 603 = .ok (.iload_n 3, 1) := by decide +kernel
theorem dL_law_604 : decode cL_law 604 = .ok (.iconst 3, 1) := by decide +kernel
theorem dL_law_605 : decode cL_law 605 = .ok (.iadd, 1) := by decide +kernel
theorem dL_law_606 : decode cL_law 606 = .ok (.iaload, 1) := by decide +kernel
theorem dL_law_607 : decode cL_law 607 = .ok (.ifCond .eq 7, 3) := by decide +kernel
theorem dL_law_610 : decode cL_law 610 = .ok (.iconst 1, 1) := by decide +kernel
theorem dL_law_611 : decode cL_law 611 = .ok (.goto 4, 3) := by decide +kernel
theorem dL_law_614 : decode cL_law 614 = .ok (.iconst 0, 1) := by decide +kernel
theorem dL_law_615 : decode cL_law 615 = .ok (.invokevirtual 82, 3) := by decide +kernel
theorem dL_law_618 : decode cL_law 618 = .ok (.if_icmp .eq 285, 3) := by decide +kernel
theorem dL_law_621 : decode cL_law 621 = .ok (.iconst 0, 1) := by decide +kernel
theorem dL_law_622 : decode cL_law 622 = .ok (.ireturn, 1) := by decide +kernel
theorem dL_law_623 : decode cL_law 623 = .ok (.aload_n 1, 1) := by decide +kernel
theorem dL_law_624 : decode cL_law 624 = .ok (.aload_n 0, 1) := by decide +kernel
theorem dL_law_625 : decode cL_law 625 = .ok (.iload_n 3, 1) := by decide +kernel
theorem dL_law_626 : decode cL_law 626 = .ok (.iconst 1, 1) := by decide +kernel
theorem dL_law_627 : decode cL_law 627 = .ok (.iadd, 1) := by decide +kernel
theorem dL_law_628 : decode cL_law 628 = .ok (.iaload, 1) := by decide +kernel
theorem dL_law_629 : decode cL_law 629 = .ok (.invokevirtual 83, 3) := by decide +kernel
theorem dL_law_632 : decode cL_law 632 = .ok (.aload_n 2, 1) := by decide +kernel
theorem dL_law_633 : decode cL_law 633 = .ok (.aload_n 0, 1) := by decide +kernel
theorem dL_law_634 : decode cL_law 634 = .ok (.iload_n 3, 1) := by decide +kernel
theorem dL_law_635 : decode cL_law 635 = .ok (.iconst 1, 1) := by decide +kernel
theorem dL_law_636 : decode cL_law 636 = .ok (.iadd, 1) := by decide +kernel
theorem dL_law_637 : decode cL_law 637 = .ok (.iaload, 1) := by decide +kernel
theorem dL_law_638 : decode cL_law 638 = .ok (.invokevirtual 86, 3) := by decide +kernel
theorem dL_law_641 : decode cL_law 641 = .ok (.if_icmp .eq 262, 3) := by decide +kernel
theorem dL_law_644 : decode cL_law 644 = .ok (.iconst 0, 1) := by decide +kernel
theorem dL_law_645 : decode cL_law 645 = .ok (.ireturn, 1) := by decide +kernel
theorem dL_law_646 : decode cL_law 646 = .ok (.aload_n 1, 1) := by decide +kernel
theorem dL_law_647 : decode cL_law 647 = .ok (.aload_n 0, 1) := by decide +kernel
theorem dL_law_648 : decode cL_law 648 = .ok (.iload_n 3, 1) := by decide +kernel
theorem dL_law_649 : decode cL_law 649 = .ok (.iconst 1, 1) := by decide +kernel
theorem dL_law_650 : decode cL_law 650 = .ok (.iadd, 1) := by decide +kernel
theorem dL_law_651 : decode cL_law 651 = .ok (.iaload, 1) := by decide +kernel
theorem dL_law_652 : decode cL_law 652 = .ok (.aload_n 0, 1) := by decide +kernel
theorem dL_law_653 : decode cL_law 653 = .ok (.iload_n 3, 1) := by decide +kernel
theorem dL_law_654 : decode cL_law 654 = .ok (.iconst 2, 1) := by decide +kernel
theorem dL_law_655 : decode cL_law 655 = .ok (.iadd, 1) := by decide +kernel
theorem dL_law_656 : decode cL_law 656 = .ok (.iaload, 1) := by decide +kernel
theorem dL_law_657 : decode cL_law 657 = .ok (.aload_n 0, 1) := by decide +kernel
theorem dL_law_658 : decode cL_law 658 = .ok (.iload_n 3, 1) := by decide +kernel
theorem dL_law_659 : decode cL_law 659 = .ok (.iconst 3, 1) := by decide +kernel
theorem dL_law_660 : decode cL_law 660 = .ok (.iadd, 1) := by decide +kernel
theorem dL_law_661 : decode cL_law 661 = .ok (.iaload, 1) := by decide +kernel
theorem dL_law_662 : decode cL_law 662 = .ok (.invokevirtual 87, 3) := by decide +kernel
theorem dL_law_665 : decode cL_law 665 = .ok (.aload_n 2, 1) := by decide +kernel
theorem dL_law_666 : decode cL_law 666 = .ok (.aload_n 0, 1) := by decide +kernel
theorem dL_law_667 : decode cL_law 667 = .ok (.iload_n 3, 1) := by decide +kernel
theorem dL_law_668 : decode cL_law 668 = .ok (.iconst 1, 1) := by decide +kernel
theorem dL_law_669 : decode cL_law 669 = .ok (.iadd, 1) := by decide +kernel
theorem dL_law_670 : decode cL_law 670 = .ok (.iaload, 1) := by decide +kernel
theorem dL_law_671 : decode cL_law 671 = .ok (.aload_n 0, 1) := by decide +kernel
theorem dL_law_672 : decode cL_law 672 = .ok (.iload_n 3, 1) := by decide +kernel
theorem dL_law_673 : decode cL_law 673 = .ok (.iconst 2, 1) := by decide +kernel
theorem dL_law_674 : decode cL_law 674 = .ok (.iadd, 1) := by decide +kernel
theorem dL_law_675 : decode cL_law 675 = .ok (.iaload, 1) := by decide +kernel
theorem dL_law_676 : decode cL_law 676 = .ok (.aload_n 0, 1) := by decide +kernel
theorem dL_law_677 : decode cL_law 677 = .ok (.iload_n 3, 1) := by decide +kernel
theorem dL_law_678 : decode cL_law 678 = .ok (.iconst 3, 1) := by decide +kernel
theorem dL_law_679 : decode cL_law 679 = .ok (.iadd, 1) := by decide +kernel
theorem dL_law_680 : decode cL_law 680 = .ok (.iaload, 1) := by decide +kernel
theorem dL_law_681 : decode cL_law 681 = .ok (.invokevirtual 90, 3) := by decide +kernel
theorem dL_law_684 : decode cL_law 684 = .ok (.if_icmp .eq 219, 3) := by decide +kernel
theorem dL_law_687 : decode cL_law 687 = .ok (.iconst 0, 1) := by decide +kernel
theorem dL_law_688 : decode cL_law 688 = .ok (.ireturn, 1) := by decide +kernel
theorem dL_law_689 : decode cL_law 689 = .ok (.aload_n 1, 1) := by decide +kernel
theorem dL_law_690 : decode cL_law 690 = .ok (.aload_n 0, 1) := by decide +kernel
theorem dL_law_691 : decode cL_law 691 = .ok (.iload_n 3, 1) := by decide +kernel
theorem dL_law_692 : decode cL_law 692 = .ok (.iconst 1, 1) := by decide +kernel
theorem dL_law_693 : decode cL_law 693 = .ok (.iadd, 1) := by decide +kernel
theorem dL_law_694 : decode cL_law 694 = .ok (.iaload, 1) := by decide +kernel
theorem dL_law_695 : decode cL_law 695 = .ok (.aload_n 0, 1) := by decide +kernel
theorem dL_law_696 : decode cL_law 696 = .ok (.iload_n 3, 1) := by decide +kernel
theorem dL_law_697 : decode cL_law 697 = .ok (.iconst 2, 1) := by decide +kernel
theorem dL_law_698 : decode cL_law 698 = .ok (.iadd, 1) := by decide +kernel
theorem dL_law_699 : decode cL_law 699 = .ok (.iaload, 1) := by decide +kernel
theorem dL_law_700 : decode cL_law 700 = .ok (.aload_n 0, 1) := by decide +kernel
theorem dL_law_701 : decode cL_law 701 = .ok (.iload_n 3, 1) := by decide +kernel
theorem dL_law_702 : decode cL_law 702 = .ok (.iconst 3, 1) := by decide +kernel
theorem dL_law_703 : decode cL_law 703 = .ok (.iadd, 1) := by decide +kernel
theorem dL_law_704 : decode cL_law 704 = .ok (.iaload, 1) := by decide +kernel
theorem dL_law_705 : decode cL_law 705 = .ok (.invokevirtual 91, 3) := by decide +kernel
theorem dL_law_708 : decode cL_law 708 = .ok (.aload_n 2, 1) := by decide +kernel
theorem dL_law_709 : decode cL_law 709 = .ok (.aload_n 0, 1) := by decide +kernel
theorem dL_law_710 : decode cL_law 710 = .ok (.iload_n 3, 1) := by decide +kernel
theorem dL_law_711 : decode cL_law 711 = .ok (.iconst 1, 1) := by decide +kernel
theorem dL_law_712 : decode cL_law 712 = .ok (.iadd, 1) := by decide +kernel
theorem dL_law_713 : decode cL_law 713 = .ok (.iaload, 1) := by decide +kernel
theorem dL_law_714 : decode cL_law 714 = .ok (.aload_n 0, 1) := by decide +kernel
theorem dL_law_715 : decode cL_law 715 = .ok (.iload_n 3, 1) := by decide +kernel
theorem dL_law_716 : decode cL_law 716 = .ok (.iconst 2, 1) := by decide +kernel
theorem dL_law_717 : decode cL_law 717 = .ok (.iadd, 1) := by decide +kernel
theorem dL_law_718 : decode cL_law 718 = .ok (.iaload, 1) := by decide +kernel
theorem dL_law_719 : decode cL_law 719 = .ok (.aload_n 0, 1) := by decide +kernel
theorem dL_law_720 : decode cL_law 720 = .ok (.iload_n 3, 1) := by decide +kernel
theorem dL_law_721 : decode cL_law 721 = .ok (.iconst 3, 1) := by decide +kernel
theorem dL_law_722 : decode cL_law 722 = .ok (.iadd, 1) := by decide +kernel
theorem dL_law_723 : decode cL_law 723 = .ok (.iaload, 1) := by decide +kernel
theorem dL_law_724 : decode cL_law 724 = .ok (.invokevirtual 94, 3) := by decide +kernel
theorem dL_law_727 : decode cL_law 727 = .ok (.if_icmp .eq 176, 3) := by decide +kernel
theorem dL_law_730 : decode cL_law 730 = .ok (.iconst 0, 1) := by decide +kernel
theorem dL_law_731 : decode cL_law 731 = .ok (.ireturn, 1) := by decide +kernel
theorem dL_law_732 : decode cL_law 732 = .ok (.aload_n 1, 1) := by decide +kernel
theorem dL_law_733 : decode cL_law 733 = .ok (.aload_n 0, 1) := by decide +kernel
theorem dL_law_734 : decode cL_law 734 = .ok (.iload_n 3, 1) := by decide +kernel
theorem dL_law_735 : decode cL_law 735 = .ok (.iconst 1, 1) := by decide +kernel
theorem dL_law_736 : decode cL_law 736 = .ok (.iadd, 1) := by decide +kernel
theorem dL_law_737 : decode cL_law 737 = .ok (.iaload, 1) := by decide +kernel
theorem dL_law_738 : decode cL_law 738 = .ok (.aload_n 0, 1) := by decide +kernel
theorem dL_law_739 : decode cL_law 739 = .ok (.iload_n 3, 1) := by decide +kernel
theorem dL_law_740 : decode cL_law 740 = .ok (.iconst 2, 1) := by decide +kernel
theorem dL_law_741 : decode cL_law 741 = .ok (.iadd, 1) := by decide +kernel
theorem dL_law_742 : decode cL_law 742 = .ok (.iaload, 1) := by decide +kernel
theorem dL_law_743 : decode cL_law 743 = .ok (.invokevirtual 95, 3) := by decide +kernel
theorem dL_law_746 : decode cL_law 746 = .ok (.aload_n 2, 1) := by decide +kernel
theorem dL_law_747 : decode cL_law 747 = .ok (.aload_n 0, 1) := by decide +kernel
theorem dL_law_748 : decode cL_law 748 = .ok (.iload_n 3, 1) := by decide +kernel
theorem dL_law_749 : decode cL_law 749 = .ok (.iconst 1, 1) := by decide +kernel
theorem dL_law_750 : decode cL_law 750 = .ok (.iadd, 1) := by decide +kernel
theorem dL_law_751 : decode cL_law 751 = .ok (.iaload, 1) := by decide +kernel
theorem dL_law_752 : decode cL_law 752 = .ok (.aload_n 0, 1) := by decide +kernel
theorem dL_law_753 : decode cL_law 753 = .ok (.iload_n 3, 1) := by decide +kernel
theorem dL_law_754 : decode cL_law 754 = .ok (.iconst 2, 1) := by decide +kernel
theorem dL_law_755 : decode cL_law 755 = .ok (.iadd, 1) := by decide +kernel
theorem dL_law_756 : decode cL_law 756 = .ok (.iaload, 1) := by decide +kernel
theorem dL_law_757 : decode cL_law 757 = .ok (.invokevirtual 98, 3) := by decide +kernel
theorem dL_law_760 : decode cL_law 760 = .ok (.if_icmp .eq 143, 3) := by decide +kernel
theorem dL_law_763 : decode cL_law 763 = .ok (.iconst 0, 1) := by decide +kernel
theorem dL_law_764 : decode cL_law 764 = .ok (.ireturn, 1) := by decide +kernel
theorem dL_law_765 : decode cL_law 765 = .ok (.aload_n 1, 1) := by decide +kernel
theorem dL_law_766 : decode cL_law 766 = .ok (.aload_n 0, 1) := by decide +kernel
theorem dL_law_767 : decode cL_law 767 = .ok (.iload_n 3, 1) := by decide +kernel
theorem dL_law_768 : decode cL_law 768 = .ok (.iconst 1, 1) := by decide +kernel
theorem dL_law_769 : decode cL_law 769 = .ok (.iadd, 1) := by decide +kernel
theorem dL_law_770 : decode cL_law 770 = .ok (.iaload, 1) := by decide +kernel
theorem dL_law_771 : decode cL_law 771 = .ok (.ifCond .eq 7, 3) := by decide +kernel
theorem dL_law_774 : decode cL_law 774 = .ok (.iconst 1, 1) := by decide +kernel
theorem dL_law_775 : decode cL_law 775 = .ok (.goto 4, 3) := by decide +kernel
theorem dL_law_778 : decode cL_law 778 = .ok (.iconst 0, 1) := by decide +kernel
theorem dL_law_779 : decode cL_law 779 = .ok (.aload_n 0, 1) := by decide +kernel
theorem dL_law_780 : decode cL_law 780 = .ok (.iload_n 3, 1) := by decide +kernel
theorem dL_law_781 : decode cL_law 781 = .ok (.iconst 2, 1) := by decide +kernel
theorem dL_law_782 : decode cL_law 782 = .ok (.iadd, 1) := by decide +kernel
theorem dL_law_783 : decode cL_law 783 = .ok (.iaload, 1) := by decide +kernel
theorem dL_law_784 : decode cL_law 784 = .ok (.invokevirtual 99, 3) := by decide +kernel
theorem dL_law_787 : decode cL_law 787 = .ok (.aload_n 2, 1) := by decide +kernel
theorem dL_law_788 : decode cL_law 788 = .ok (.aload_n 0, 1) := by decide +kernel
theorem dL_law_789 : decode cL_law 789 = .ok (.iload_n 3, 1) := by decide +kernel
theorem dL_law_790 : decode cL_law 790 = .ok (.iconst 1, 1) := by decide +kernel
theorem dL_law_791 : decode cL_law 791 = .ok (.iadd, 1) := by decide +kernel
theorem dL_law_792 : decode cL_law 792 = .ok (.iaload, 1) := by decide +kernel
theorem dL_law_793 : decode cL_law 793 = .ok (.ifCond .eq 7, 3) := by decide +kernel
theorem dL_law_796 : decode cL_law 796 = .ok (.iconst 1, 1) := by decide +kernel
theorem dL_law_797 : decode cL_law 797 = .ok (.goto 4, 3) := by decide +kernel
theorem dL_law_800 : decode cL_law 800 = .ok (.iconst 0, 1) := by decide +kernel
theorem dL_law_801 : decode cL_law 801 = .ok (.aload_n 0, 1) := by decide +kernel
theorem dL_law_802 : decode cL_law 802 = .ok (.iload_n 3, 1) := by decide +kernel
theorem dL_law_803 : decode cL_law 803 = .ok (.iconst 2, 1) := by decide +kernel
theorem dL_law_804 : decode cL_law 804 = .ok (.iadd, 1) := by decide +kernel
theorem dL_law_805 : decode cL_law 805 = .ok (.iaload, 1) := by decide +kernel
theorem dL_law_806 : decode cL_law 806 = .ok (.invokevirtual 103, 3) := by decide +kernel
theorem dL_law_809 : decode cL_law 809 = .ok (.if_icmp .eq 94, 3) := by decide +kernel
theorem dL_law_812 : decode cL_law 812 = .ok (.iconst 0, 1) := by decide +kernel
theorem dL_law_813 : decode cL_law 813 = .ok (.ireturn, 1) := by decide +kernel
theorem dL_law_814 : decode cL_law 814 = .ok (.aload_n 1, 1) := by decide +kernel
theorem dL_law_815 : decode cL_law 815 = .ok (.aload_n 0, 1) := by decide +kernel
theorem dL_law_816 : decode cL_law 816 = .ok (.iload_n 3, 1) := by decide +kernel
theorem dL_law_817 : decode cL_law 817 = .ok (.iconst 1, 1) := by decide +kernel
theorem dL_law_818 : decode cL_law 818 = .ok (.iadd, 1) := by decide +kernel
theorem dL_law_819 : decode cL_law 819 = .ok (.iaload, 1) := by decide +kernel
theorem dL_law_820 : decode cL_law 820 = .ok (.aload_n 0, 1) := by decide +kernel
theorem dL_law_821 : decode cL_law 821 = .ok (.iload_n 3, 1) := by decide +kernel
theorem dL_law_822 : decode cL_law 822 = .ok (.iconst 2, 1) := by decide +kernel
theorem dL_law_823 : decode cL_law 823 = .ok (.iadd, 1) := by decide +kernel
theorem dL_law_824 : decode cL_law 824 = .ok (.iaload, 1) := by decide +kernel
theorem dL_law_825 : decode cL_law 825 = .ok (.invokevirtual 104, 3) := by decide +kernel
theorem dL_law_828 : decode cL_law 828 = .ok (.aload_n 2, 1) := by decide +kernel
theorem dL_law_829 : decode cL_law 829 = .ok (.aload_n 0, 1) := by decide +kernel
theorem dL_law_830 : decode cL_law 830 = .ok (.iload_n 3, 1) := by decide +kernel
theorem dL_law_831 : decode cL_law 831 = .ok (.iconst 1, 1) := by decide +kernel
theorem dL_law_832 : decode cL_law 832 = .ok (.iadd, 1) := by decide +kernel
theorem dL_law_833 : decode cL_law 833 = .ok (.iaload, 1) := by decide +kernel
theorem dL_law_834 : decode cL_law 834 = .ok (.aload_n 0, 1) := by decide +kernel
theorem dL_law_835 : decode cL_law 835 = .ok (.iload_n 3, 1) := by decide +kernel
theorem dL_law_836 : decode cL_law 836 = .ok (.iconst 2, 1) := by decide +kernel
theorem dL_law_837 : decode cL_law 837 = .ok (.iadd, 1) := by decide +kernel
theorem dL_law_838 : decode cL_law 838 = .ok (.iaload, 1) := by decide +kernel
theorem dL_law_839 : decode cL_law 839 = .ok (.invokevirtual 107, 3) := by decide +kernel
theorem dL_law_842 : decode cL_law 842 = .ok (.if_icmp .eq 61, 3) := by decide +kernel
theorem dL_law_845 : decode cL_law 845 = .ok (.iconst 0, 1) := by decide +kernel
theorem dL_law_846 : decode cL_law 846 = .ok (.ireturn, 1) := by decide +kernel
theorem dL_law_847 : decode cL_law 847 = .ok (.aload_n 1, 1) := by decide +kernel
theorem dL_law_848 : decode cL_law 848 = .ok (.aload_n 0, 1) := by decide +kernel
theorem dL_law_849 : decode cL_law 849 = .ok (.iload_n 3, 1) := by decide +kernel
theorem dL_law_850 : decode cL_law 850 = .ok (.iconst 1, 1) := by decide +kernel
theorem dL_law_851 : decode cL_law 851 = .ok (.iadd, 1) := by decide +kernel
theorem dL_law_852 : decode cL_law 852 = .ok (.iaload, 1) := by decide +kernel
theorem dL_law_853 : decode cL_law 853 = .ok (.aload_n 0, 1) := by decide +kernel
theorem dL_law_854 : decode cL_law 854 = .ok (.iload_n 3, 1) := by decide +kernel
theorem dL_law_855 : decode cL_law 855 = .ok (.iconst 2, 1) := by decide +kernel
theorem dL_law_856 : decode cL_law 856 = .ok (.iadd, 1) := by decide +kernel
theorem dL_law_857 : decode cL_law 857 = .ok (.iaload, 1) := by decide +kernel
theorem dL_law_858 : decode cL_law 858 = .ok (.invokevirtual 108, 3) := by decide +kernel
theorem dL_law_861 : decode cL_law 861 = .ok (.aload_n 2, 1) := by decide +kernel
theorem dL_law_862 : decode cL_law 862 = .ok (.aload_n 0, 1) := by decide +kernel
theorem dL_law_863 : decode cL_law 863 = .ok (.iload_n 3, 1) := by decide +kernel
theorem dL_law_864 : decode cL_law 864 = .ok (.iconst 1, 1) := by decide +kernel
theorem dL_law_865 : decode cL_law 865 = .ok (.iadd, 1) := by decide +kernel
theorem dL_law_866 : decode cL_law 866 = .ok (.iaload, 1) := by decide +kernel
theorem dL_law_867 : decode cL_law 867 = .ok (.aload_n 0, 1) := by decide +kernel
theorem dL_law_868 : decode cL_law 868 = .ok (.iload_n 3, 1) := by decide +kernel
theorem dL_law_869 : decode cL_law 869 = .ok (.iconst 2, 1) := by decide +kernel
theorem dL_law_870 : decode cL_law 870 = .ok (.iadd, 1) := by decide +kernel
theorem dL_law_871 : decode cL_law 871 = .ok (.iaload, 1) := by decide +kernel
theorem dL_law_872 : decode cL_law 872 = .ok (.invokevirtual 111, 3) := by decide +kernel
theorem dL_law_875 : decode cL_law 875 = .ok (.if_icmp .eq 28, 3) := by decide +kernel
theorem dL_law_878 : decode cL_law 878 = .ok (.iconst 0, 1) := by decide +kernel
theorem dL_law_879 : decode cL_law 879 = .ok (.ireturn, 1) := by decide +kernel
theorem dL_law_880 : decode cL_law 880 = .ok (.aload_n 1, 1) := by decide +kernel
theorem dL_law_881 : decode cL_law 881 = .ok (.aload_n 0, 1) := by decide +kernel
theorem dL_law_882 : decode cL_law 882 = .ok (.iload_n 3, 1) := by decide +kernel
theorem dL_law_883 : decode cL_law 883 = .ok (.iconst 1, 1) := by decide +kernel
theorem dL_law_884 : decode cL_law 884 = .ok (.iadd, 1) := by decide +kernel
theorem dL_law_885 : decode cL_law 885 = .ok (.iaload, 1) := by decide +kernel
theorem dL_law_886 : decode cL_law 886 = .ok (.invokevirtual 112, 3) := by decide +kernel
theorem dL_law_889 : decode cL_law 889 = .ok (.aload_n 2, 1) := by decide +kernel
theorem dL_law_890 : decode cL_law 890 = .ok (.aload_n 0, 1) := by decide +kernel
theorem dL_law_891 : decode cL_law 891 = .ok (.iload_n 3, 1) := by decide +kernel
theorem dL_law_892 : decode cL_law 892 = .ok (.iconst 1, 1) := by decide +kernel
theorem dL_law_893 : decode cL_law 893 = .ok (.iadd, 1) := by decide +kernel
theorem dL_law_894 : decode cL_law 894 = .ok (.iaload, 1) := by decide +kernel
theorem dL_law_895 : decode cL_law 895 = .ok (.invokevirtual 115, 3) := by decide +kernel
theorem dL_law_898 : decode cL_law 898 = .ok (.if_icmp .eq 5, 3) := by decide +kernel
theorem dL_law_901 : decode cL_law 901 = .ok (.iconst 0, 1) := by decide +kernel
theorem dL_law_902 : decode cL_law 902 = .ok (.ireturn, 1) := by decide +kernel
theorem dL_law_903 : decode cL_law 903 = .ok (.iinc 3 6, 3) := by decide +kernel
theorem dL_law_906 : decode cL_law 906 = .ok (.goto (-868), 3) := by decide +kernel
theorem dL_law_909 : decode cL_law 909 = .ok (.iconst 1, 1) := by decide +kernel
theorem dL_law_910 : decode cL_law 910 = .ok (.ireturn, 1) := by decide +kernel
