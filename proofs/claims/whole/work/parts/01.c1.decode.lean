theorem dX6_sync_86 : decode cX6_sync 86 = .ok (.getfield 127, 3) := by decide +kernel
theorem dX6_sync_89 : decode cX6_sync 89 = .ok (.iload_n 1, 1) := by decide +kernel
theorem dX6_sync_90 : decode cX6_sync 90 = .ok (.iconst 0, 1) := by decide +kernel
theorem dX6_sync_91 : decode cX6_sync 91 = .ok (.iastore, 1) := by decide +kernel
theorem dX6_sync_92 : decode cX6_sync 92 = .ok (.iload_n 3, 1) := by decide +kernel
theorem dX6_sync_93 : decode cX6_sync 93 = .ok (.ifCond .eq 7, 3) := by decide +kernel
theorem dX6_sync_96 : decode cX6_sync 96 = .ok (.iload_n 3, 1) := by decide +kernel
theorem dX6_sync_97 : decode cX6_sync 97 = .ok (.goto 4, 3) := by decide +kernel
theorem dX6_sync_100 : decode cX6_sync 100 = .ok (.iload_n 2, 1) := by decide +kernel
theorem dX6_sync_101 : decode cX6_sync 101 = .ok (.ireturn, 1) := by decide +kernel
theorem dX6_syncAll_0 : decode cX6_syncAll 0 = .ok (.aload_n 0, 1) := by decide +kernel
theorem dX6_syncAll_1 : decode cX6_syncAll 1 = .ok (.getfield 35, 3) := by decide +kernel
theorem dX6_syncAll_4 : decode cX6_syncAll 4 = .ok (.invokevirtual 70, 3) := by decide +kernel
theorem dX6_syncAll_7 : decode cX6_syncAll 7 = .ok (.iconst 0, 1) := by decide +kernel
theorem dX6_syncAll_8 : decode cX6_syncAll 8 = .ok (.istore_n 1, 1) := by decide +kernel
theorem dX6_syncAll_9 : decode cX6_syncAll 9 = .ok (.iload_n 1, 1) := by decide +kernel
theorem dX6_syncAll_10 : decode cX6_syncAll 10 = .ok (.sipush 3072, 3) := by decide +kernel
theorem dX6_syncAll_13 : decode cX6_syncAll 13 = .ok (.if_icmp .ge 33, 3) := by decide +kernel
theorem dX6_syncAll_16 : decode cX6_syncAll 16 = .ok (.aload_n 0, 1) := by decide +kernel
theorem dX6_syncAll_17 : decode cX6_syncAll 17 = .ok (.getfield 49, 3) := by decide +kernel
theorem dX6_syncAll_20 : decode cX6_syncAll 20 = .ok (.aload_n 0, 1) := by decide +kernel
theorem dX6_syncAll_21 : decode cX6_syncAll 21 = .ok (.getfield 49, 3) := by decide +kernel
theorem dX6_syncAll_24 : decode cX6_syncAll 24 = .ok (.iload_n 1, 1) := by decide +kernel
theorem dX6_syncAll_25 : decode cX6_syncAll 25 = .ok (.invokevirtual 118, 3) := by decide +kernel
theorem dX6_syncAll_28 : decode cX6_syncAll 28 = .ok (.invokevirtual 121, 3) := by decide +kernel
theorem dX6_syncAll_31 : decode cX6_syncAll 31 = .ok (.ifCond .eq 9, 3) := by decide +kernel
theorem dX6_syncAll_34 : decode cX6_syncAll 34 = .ok (.aload_n 0, 1) := by decide +kernel
theorem dX6_syncAll_35 : decode cX6_syncAll 35 = .ok (.iload_n 1, 1) := by decide +kernel
theorem dX6_syncAll_36 : decode cX6_syncAll 36 = .ok (.invokevirtual 130, 3) := by decide +kernel
theorem dX6_syncAll_39 : decode cX6_syncAll 39 = .ok (.pop, 1) := by decide +kernel
theorem dX6_syncAll_40 : decode cX6_syncAll 40 = .ok (.iinc 1 1, 3) := by decide +kernel
theorem dX6_syncAll_43 : decode cX6_syncAll 43 = .ok (.goto (-34), 3) := by decide +kernel
theorem dX6_syncAll_46 : decode cX6_syncAll 46 = .ok (.iconst 0, 1) := by decide +kernel
theorem dX6_syncAll_47 : decode cX6_syncAll 47 = .ok (.istore_n 1, 1) := by decide +kernel
theorem dX6_syncAll_48 : decode cX6_syncAll 48 = .ok (.aload_n 0, 1) := by decide +kernel
theorem dX6_syncAll_49 : decode cX6_syncAll 49 = .ok (.iconst (-1), 1) := by decide +kernel
theorem dX6_syncAll_50 : decode cX6_syncAll 50 = .ok (.invokevirtual 133, 3) := by decide +kernel
theorem dX6_syncAll_53 : decode cX6_syncAll 53 = .ok (.istore_n 2, 1) := by decide +kernel
theorem dX6_syncAll_54 : decode cX6_syncAll 54 = .ok (.iconst 0, 1) := by decide +kernel
theorem dX6_syncAll_55 : decode cX6_syncAll 55 = .ok (.istore_n 3, 1) := by decide +kernel
theorem dX6_syncAll_56 : decode cX6_syncAll 56 = .ok (.iload_n 3, 1) := by decide +kernel
theorem dX6_syncAll_57 : decode cX6_syncAll 57 = .ok (.aload_n 0, 1) := by decide +kernel
theorem dX6_syncAll_58 : decode cX6_syncAll 58 = .ok (.getfield 49, 3) := by decide +kernel
theorem dX6_syncAll_61 : decode cX6_syncAll 61 = .ok (.getfield 136, 3) := by decide +kernel
theorem dX6_syncAll_64 : decode cX6_syncAll 64 = .ok (.if_icmp .ge 35, 3) := by decide +kernel
theorem dX6_syncAll_67 : decode cX6_syncAll 67 = .ok (.iload_n 2, 1) := by decide +kernel
theorem dX6_syncAll_68 : decode cX6_syncAll 68 = .ok (.iconst (-1), 1) := by decide +kernel
theorem dX6_syncAll_69 : decode cX6_syncAll 69 = .ok (.if_icmp .eq 30, 3) := by decide +kernel
theorem dX6_syncAll_72 : decode cX6_syncAll 72 = .ok (.aload_n 0, 1) := by decide +kernel
theorem dX6_syncAll_73 : decode cX6_syncAll 73 = .ok (.aload_n 0, 1) := by decide +kernel
theorem dX6_syncAll_74 : decode cX6_syncAll 74 = .ok (.iload_n 2, 1) := by decide +kernel
theorem dX6_syncAll_75 : decode cX6_syncAll 75 = .ok (.invokevirtual 139, 3) := by decide +kernel
theorem dX6_syncAll_78 : decode cX6_syncAll 78 = .ok (.invokevirtual 124, 3) := by decide +kernel
theorem dX6_syncAll_81 : decode cX6_syncAll 81 = .ok (.ifCond .eq 6, 3) := by decide +kernel
theorem dX6_syncAll_84 : decode cX6_syncAll 84 = .ok (.iinc 1 1, 3) := by decide +kernel
theorem dX6_syncAll_87 : decode cX6_syncAll 87 = .ok (.aload_n 0, 1) := by decide +kernel
theorem dX6_syncAll_88 : decode cX6_syncAll 88 = .ok (.iload_n 2, 1) := by decide +kernel
theorem dX6_syncAll_89 : decode cX6_syncAll 89 = .ok (.invokevirtual 133, 3) := by decide +kernel
theorem dX6_syncAll_92 : decode cX6_syncAll 92 = .ok (.istore_n 2, 1) := by decide +kernel
theorem dX6_syncAll_93 : decode cX6_syncAll 93 = .ok (.iinc 3 1, 3) := by decide +kernel
theorem dX6_syncAll_96 : decode cX6_syncAll 96 = .ok (.goto (-40), 3) := by decide +kernel
theorem dX6_syncAll_99 : decode cX6_syncAll 99 = .ok (.iload_n 1, 1) := by decide +kernel
theorem dX6_syncAll_100 : decode cX6_syncAll 100 = .ok (.ireturn, 1) := by decide +kernel
theorem dX6_tick_0 : decode cX6_tick 0 = .ok (.iload_n 1, 1) := by decide +kernel
theorem dX6_tick_1 : decode cX6_tick 1 = .ok (.ifCond .lt 10, 3) := by decide +kernel
theorem dX6_tick_4 : decode cX6_tick 4 = .ok (.iload_n 1, 1) := by decide +kernel
theorem dX6_tick_5 : decode cX6_tick 5 = .ok (.sipush 1000, 3) := by decide +kernel
theorem dX6_tick_8 : decode cX6_tick 8 = .ok (.if_icmp .le 6, 3) := by decide +kernel
theorem dX6_tick_11 : decode cX6_tick 11 = .ok (.bipush (-2), 2) := by decide +kernel
theorem dX6_tick_13 : decode cX6_tick 13 = .ok (.ireturn, 1) := by decide +kernel
theorem dX6_tick_14 : decode cX6_tick 14 = .ok (.aload_n 0, 1) := by decide +kernel
theorem dX6_tick_15 : decode cX6_tick 15 = .ok (.getfield 35, 3) := by decide +kernel
theorem dX6_tick_18 : decode cX6_tick 18 = .ok (.invokevirtual 70, 3) := by decide +kernel
theorem dX6_tick_21 : decode cX6_tick 21 = .ok (.iconst 0, 1) := by decide +kernel
theorem dX6_tick_22 : decode cX6_tick 22 = .ok (.istore_n 2, 1) := by decide +kernel
theorem dX6_tick_23 : decode cX6_tick 23 = .ok (.iconst 0, 1) := by decide +kernel
theorem dX6_tick_24 : decode cX6_tick 24 = .ok (.istore_n 3, 1) := by decide +kernel
theorem dX6_tick_25 : decode cX6_tick 25 = .ok (.iload_n 3, 1) := by decide +kernel
theorem dX6_tick_26 : decode cX6_tick 26 = .ok (.iload_n 1, 1) := by decide +kernel
theorem dX6_tick_27 : decode cX6_tick 27 = .ok (.if_icmp .ge 26, 3) := by decide +kernel
theorem dX6_tick_30 : decode cX6_tick 30 = .ok (.aload_n 0, 1) := by decide +kernel
theorem dX6_tick_31 : decode cX6_tick 31 = .ok (.dup, 1) := by decide +kernel
theorem dX6_tick_32 : decode cX6_tick 32 = .ok (.getfield 29, 3) := by decide +kernel
theorem dX6_tick_35 : decode cX6_tick 35 = .ok (.iconst 1, 1) := by decide +kernel
theorem dX6_tick_36 : decode cX6_tick 36 = .ok (.iadd, 1) := by decide +kernel
theorem dX6_tick_37 : decode cX6_tick 37 = .ok (.putfield 29, 3) := by decide +kernel
theorem dX6_tick_40 : decode cX6_tick 40 = .ok (.iload_n 2, 1) := by decide +kernel
theorem dX6_tick_41 : decode cX6_tick 41 = .ok (.aload_n 0, 1) := by decide +kernel
theorem dX6_tick_42 : decode cX6_tick 42 = .ok (.invokevirtual 142, 3) := by decide +kernel
theorem dX6_tick_45 : decode cX6_tick 45 = .ok (.iadd, 1) := by decide +kernel
theorem dX6_tick_46 : decode cX6_tick 46 = .ok (.istore_n 2, 1) := by decide +kernel
theorem dX6_tick_47 : decode cX6_tick 47 = .ok (.iinc 3 1, 3) := by decide +kernel
theorem dX6_tick_50 : decode cX6_tick 50 = .ok (.goto (-25), 3) := by decide +kernel
theorem dX6_tick_53 : decode cX6_tick 53 = .ok (.iload_n 2, 1) := by decide +kernel
theorem dX6_tick_54 : decode cX6_tick 54 = .ok (.ireturn, 1) := by decide +kernel
theorem dX6_drop_0 : decode cX6_drop 0 = .ok (.iconst 0, 1) := by decide +kernel
theorem dX6_drop_1 : decode cX6_drop 1 = .ok (.istore_n 1, 1) := by decide +kernel
theorem dX6_drop_2 : decode cX6_drop 2 = .ok (.iconst 0, 1) := by decide +kernel
theorem dX6_drop_3 : decode cX6_drop 3 = .ok (.istore_n 2, 1) := by decide +kernel
theorem dX6_drop_4 : decode cX6_drop 4 = .ok (.iload_n 2, 1) := by decide +kernel
theorem dX6_drop_5 : decode cX6_drop 5 = .ok (.sipush 3072, 3) := by decide +kernel
theorem dX6_drop_8 : decode cX6_drop 8 = .ok (.if_icmp .ge 54, 3) := by decide +kernel
theorem dX6_drop_11 : decode cX6_drop 11 = .ok (.aload_n 0, 1) := by decide +kernel
theorem dX6_drop_12 : decode cX6_drop 12 = .ok (.getfield 49, 3) := by decide +kernel
theorem dX6_drop_15 : decode cX6_drop 15 = .ok (.iload_n 2, 1) := by decide +kernel
theorem dX6_drop_16 : decode cX6_drop 16 = .ok (.invokevirtual 118, 3) := by decide +kernel
theorem dX6_drop_19 : decode cX6_drop 19 = .ok (.istore_n 3, 1) := by decide +kernel
theorem dX6_drop_20 : decode cX6_drop 20 = .ok (.iload_n 3, 1) := by decide +kernel
theorem dX6_drop_21 : decode cX6_drop 21 = .ok (.iconst (-1), 1) := by decide +kernel
theorem dX6_drop_22 : decode cX6_drop 22 = .ok (.if_icmp .eq 34, 3) := by decide +kernel
theorem dX6_drop_25 : decode cX6_drop 25 = .ok (.aload_n 0, 1) := by decide +kernel
theorem dX6_drop_26 : decode cX6_drop 26 = .ok (.getfield 49, 3) := by decide +kernel
theorem dX6_drop_29 : decode cX6_drop 29 = .ok (.iload_n 3, 1) := by decide +kernel
theorem dX6_drop_30 : decode cX6_drop 30 = .ok (.invokevirtual 121, 3) := by decide +kernel
theorem dX6_drop_33 : decode cX6_drop 33 = .ok (.ifCond .ne 23, 3) := by decide +kernel
theorem dX6_drop_36 : decode cX6_drop 36 = .ok (.aload_n 0, 1) := by decide +kernel
theorem dX6_drop_37 : decode cX6_drop 37 = .ok (.getfield 49, 3) := by decide +kernel
theorem dX6_drop_40 : decode cX6_drop 40 = .ok (.getfield 146, 3) := by decide +kernel
theorem dX6_drop_43 : decode cX6_drop 43 = .ok (.iload_n 3, 1) := by decide +kernel
theorem dX6_drop_44 : decode cX6_drop 44 = .ok (.baload, 1) := by decide +kernel
theorem dX6_drop_45 : decode cX6_drop 45 = .ok (.ifCond .ne 11, 3) := by decide +kernel
theorem dX6_drop_48 : decode cX6_drop 48 = .ok (.aload_n 0, 1) := by decide +kernel
theorem dX6_drop_49 : decode cX6_drop 49 = .ok (.iload_n 3, 1) := by decide +kernel
theorem dX6_drop_50 : decode cX6_drop 50 = .ok (.invokevirtual 150, 3) := by decide +kernel
theorem dX6_drop_53 : decode cX6_drop 53 = .ok (.iinc 1 1, 3) := by decide +kernel
theorem dX6_drop_56 : decode cX6_drop 56 = .ok (.iinc 2 1, 3) := by decide +kernel
theorem dX6_drop_59 : decode cX6_drop 59 = .ok (.goto (-55), 3) := by decide +kernel
theorem dX6_drop_62 : decode cX6_drop 62 = .ok (.iload_n 1, 1) := by decide +kernel
theorem dX6_drop_63 : decode cX6_drop 63 = .ok (.ireturn, 1) := by decide +kernel
theorem dX6_crash_0 : decode cX6_crash 0 = .ok (.aload_n 0, 1) := by decide +kernel
theorem dX6_crash_1 : decode cX6_crash 1 = .ok (.getfield 49, 3) := by decide +kernel
theorem dX6_crash_4 : decode cX6_crash 4 = .ok (.getfield 153, 3) := by decide +kernel
theorem dX6_crash_7 : decode cX6_crash 7 = .ok (.istore_n 1, 1) := by decide +kernel
theorem dX6_crash_8 : decode cX6_crash 8 = .ok (.iconst 0, 1) := by decide +kernel
theorem dX6_crash_9 : decode cX6_crash 9 = .ok (.istore_n 2, 1) := by decide +kernel
theorem dX6_crash_10 : decode cX6_crash 10 = .ok (.iload_n 2, 1) := by decide +kernel
theorem dX6_crash_11 : decode cX6_crash 11 = .ok (.aload_n 0, 1) := by decide +kernel
theorem dX6_crash_12 : decode cX6_crash 12 = .ok (.getfield 49, 3) := by decide +kernel
theorem dX6_crash_15 : decode cX6_crash 15 = .ok (.getfield 136, 3) := by decide +kernel
theorem dX6_crash_18 : decode cX6_crash 18 = .ok (.if_icmp .ge 17, 3) := by decide +kernel
theorem dX6_crash_21 : decode cX6_crash 21 = .ok (.aload_n 0, 1) := by decide +kernel
theorem dX6_crash_22 : decode cX6_crash 22 = .ok (.getfield 49, 3) := by decide +kernel
theorem dX6_crash_25 : decode cX6_crash 25 = .ok (.iload_n 2, 1) := by decide +kernel
theorem dX6_crash_26 : decode cX6_crash 26 = .ok (.invokevirtual 156, 3) := by decide +kernel
theorem dX6_crash_29 : decode cX6_crash 29 = .ok (.iinc 2 1, 3) := by decide +kernel
theorem dX6_crash_32 : decode cX6_crash 32 = .ok (.goto (-22), 3) := by decide +kernel
theorem dX6_crash_35 : decode cX6_crash 35 = .ok (.aload_n 0, 1) := by decide +kernel
theorem dX6_crash_36 : decode cX6_crash 36 = .ok (.getfield 56, 3) := by decide +kernel
theorem dX6_crash_39 : decode cX6_crash 39 = .ok (.invokevirtual 159, 3) := by decide +kernel
theorem dX6_crash_42 : decode cX6_crash 42 = .ok (.aload_n 0, 1) := by decide +kernel
theorem dX6_crash_43 : decode cX6_crash 43 = .ok (.getfield 42, 3) := by decide +kernel
theorem dX6_crash_46 : decode cX6_crash 46 = .ok (.invokevirtual 162, 3) := by decide +kernel
theorem dX6_crash_49 : decode cX6_crash 49 = .ok (.aload_n 0, 1) := by decide +kernel
theorem dX6_crash_50 : decode cX6_crash 50 = .ok (.iconst 0, 1) := by decide +kernel
theorem dX6_crash_51 : decode cX6_crash 51 = .ok (.putfield 25, 3) := by decide +kernel
theorem dX6_crash_54 : decode cX6_crash 54 = .ok (.iload_n 1, 1) := by decide +kernel
theorem dX6_crash_55 : decode cX6_crash 55 = .ok (.ireturn, 1) := by decide +kernel
theorem dX6_fail_0 : decode cX6_fail 0 = .ok (.aload_n 0, 1) := by decide +kernel
theorem dX6_fail_1 : decode cX6_fail 1 = .ok (.getfield 35, 3) := by decide +kernel
theorem dX6_fail_4 : decode cX6_fail 4 = .ok (.iload_n 1, 1) := by decide +kernel
theorem dX6_fail_5 : decode cX6_fail 5 = .ok (.invokevirtual 165, 3) := by decide +kernel
theorem dX6_fail_8 : decode cX6_fail 8 = .ok (.ifCond .eq 16, 3) := by decide +kernel
theorem dX6_fail_11 : decode cX6_fail 11 = .ok (.aload_n 0, 1) := by decide +kernel
theorem dX6_fail_12 : decode cX6_fail 12 = .ok (.getfield 35, 3) := by decide +kernel
theorem dX6_fail_15 : decode cX6_fail 15 = .ok (.getfield 168, 3) := by decide +kernel
theorem dX6_fail_18 : decode cX6_fail 18 = .ok (.iload_n 1, 1) := by decide +kernel
theorem dX6_fail_19 : decode cX6_fail 19 = .ok (.baload, 1) := by decide +kernel
theorem dX6_fail_20 : decode cX6_fail 20 = .ok (.iload_n 2, 1) := by decide +kernel
theorem dX6_fail_21 : decode cX6_fail 21 = .ok (.if_icmp .ne 5, 3) := by decide +kernel
theorem dX6_fail_24 : decode cX6_fail 24 = .ok (.iconst 0, 1) := by decide +kernel
theorem dX6_fail_25 : decode cX6_fail 25 = .ok (.ireturn, 1) := by decide +kernel
theorem dX6_fail_26 : decode cX6_fail 26 = .ok (.aload_n 0, 1) := by decide +kernel
theorem dX6_fail_27 : decode cX6_fail 27 = .ok (.getfield 35, 3) := by decide +kernel
theorem dX6_fail_30 : decode cX6_fail 30 = .ok (.getfield 168, 3) := by decide +kernel
theorem dX6_fail_33 : decode cX6_fail 33 = .ok (.iload_n 1, 1) := by decide +kernel
theorem dX6_fail_34 : decode cX6_fail 34 = .ok (.iload_n 2, 1) := by decide +kernel
theorem dX6_fail_35 : decode cX6_fail 35 = .ok (.bastore, 1) := by decide +kernel
theorem dX6_fail_36 : decode cX6_fail 36 = .ok (.iconst 1, 1) := by decide +kernel
theorem dX6_fail_37 : decode cX6_fail 37 = .ok (.ireturn, 1) := by decide +kernel
theorem dX6_pin_0 : decode cX6_pin 0 = .ok (.iload_n 1, 1) := by decide +kernel
theorem dX6_pin_1 : decode cX6_pin 1 = .ok (.invokestatic 66, 3) := by decide +kernel
theorem dX6_pin_4 : decode cX6_pin 4 = .ok (.ifCond .eq 10, 3) := by decide +kernel
theorem dX6_pin_7 : decode cX6_pin 7 = .ok (.iload_n 2, 1) := by decide +kernel
theorem dX6_pin_8 : decode cX6_pin 8 = .ok (.invokestatic 115, 3) := by decide +kernel
theorem dX6_pin_11 : decode cX6_pin 11 = .ok (.ifCond .ne 5, 3) := by decide +kernel
theorem dX6_pin_14 : decode cX6_pin 14 = .ok (.iconst 0, 1) := by decide +kernel
theorem dX6_pin_15 : decode cX6_pin 15 = .ok (.ireturn, 1) := by decide +kernel
theorem dX6_pin_16 : decode cX6_pin 16 = .ok (.iload_n 1, 1) := by decide +kernel
theorem dX6_pin_17 : decode cX6_pin 17 = .ok (.iload_n 2, 1) := by decide +kernel
theorem dX6_pin_18 : decode cX6_pin 18 = .ok (.invokestatic 105, 3) := by decide +kernel
theorem dX6_pin_21 : decode cX6_pin 21 = .ok (.istore 4, 2) := by decide +kernel
theorem dX6_pin_23 : decode cX6_pin 23 = .ok (.aload_n 0, 1) := by decide +kernel
theorem dX6_pin_24 : decode cX6_pin 24 = .ok (.getfield 49, 3) := by decide +kernel
theorem dX6_pin_27 : decode cX6_pin 27 = .ok (.iload 4, 2) := by decide +kernel
theorem dX6_pin_29 : decode cX6_pin 29 = .ok (.invokevirtual 118, 3) := by decide +kernel
theorem dX6_pin_32 : decode cX6_pin 32 = .ok (.istore 5, 2) := by decide +kernel
theorem dX6_pin_34 : decode cX6_pin 34 = .ok (.iload 5, 2) := by decide +kernel
theorem dX6_pin_36 : decode cX6_pin 36 = .ok (.iconst (-1), 1) := by decide +kernel
theorem dX6_pin_37 : decode cX6_pin 37 = .ok (.if_icmp .eq 20, 3) := by decide +kernel
theorem dX6_pin_40 : decode cX6_pin 40 = .ok (.aload_n 0, 1) := by decide +kernel
theorem dX6_pin_41 : decode cX6_pin 41 = .ok (.getfield 49, 3) := by decide +kernel
theorem dX6_pin_44 : decode cX6_pin 44 = .ok (.getfield 146, 3) := by decide +kernel
theorem dX6_pin_47 : decode cX6_pin 47 = .ok (.iload 5, 2) := by decide +kernel
theorem dX6_pin_49 : decode cX6_pin 49 = .ok (.baload, 1) := by decide +kernel
theorem dX6_pin_50 : decode cX6_pin 50 = .ok (.ifCond .eq 7, 3) := by decide +kernel
theorem dX6_pin_53 : decode cX6_pin 53 = .ok (.iconst 1, 1) := by decide +kernel
theorem dX6_pin_54 : decode cX6_pin 54 = .ok (.goto 4, 3) := by decide +kernel
theorem dX6_pin_57 : decode cX6_pin 57 = .ok (.iconst 0, 1) := by decide +kernel
theorem dX6_pin_58 : decode cX6_pin 58 = .ok (.istore 6, 2) := by decide +kernel
theorem dX6_pin_60 : decode cX6_pin 60 = .ok (.iload_n 3, 1) := by decide +kernel
theorem dX6_pin_61 : decode cX6_pin 61 = .ok (.ifCond .ne 16, 3) := by decide +kernel
theorem dX6_pin_64 : decode cX6_pin 64 = .ok (.aload_n 0, 1) := by decide +kernel
theorem dX6_pin_65 : decode cX6_pin 65 = .ok (.getfield 49, 3) := by decide +kernel
theorem dX6_pin_68 : decode cX6_pin 68 = .ok (.iload 5, 2) := by decide +kernel
theorem dX6_pin_70 : decode cX6_pin 70 = .ok (.iconst 0, 1) := by decide +kernel
theorem dX6_pin_71 : decode cX6_pin 71 = .ok (.invokevirtual 171, 3) := by decide +kernel
theorem dX6_pin_74 : decode cX6_pin 74 = .ok (.iload 6, 2) := by decide +kernel
theorem dX6_pin_76 : decode cX6_pin 76 = .ok (.ireturn, 1) := by decide +kernel
theorem dX6_pin_77 : decode cX6_pin 77 = .ok (.iload 6, 2) := by decide +kernel
theorem dX6_pin_79 : decode cX6_pin 79 = .ok (.ifCond .ne 26, 3) := by decide +kernel
theorem dX6_pin_82 : decode cX6_pin 82 = .ok (.aload_n 0, 1) := by decide +kernel
theorem dX6_pin_83 : decode cX6_pin 83 = .ok (.getfield 49, 3) := by decide +kernel
theorem dX6_pin_86 : decode cX6_pin 86 = .ok (.getfield 175, 3) := by decide +kernel
theorem dX6_pin_89 : decode cX6_pin 89 = .ok (.aload_n 0, 1) := by decide +kernel
theorem dX6_pin_90 : decode cX6_pin 90 = .ok (.getfield 49, 3) := by decide +kernel
theorem dX6_pin_93 : decode cX6_pin 93 = .ok (.getfield 136, 3) := by decide +kernel
theorem dX6_pin_96 : decode cX6_pin 96 = .ok (.iconst 2, 1) := by decide +kernel
theorem dX6_pin_97 : decode cX6_pin 97 = .ok (.idiv, 1) := by decide +kernel
theorem dX6_pin_98 : decode cX6_pin 98 = .ok (.if_icmp .lt 7, 3) := by decide +kernel
theorem dX6_pin_101 : decode cX6_pin 101 = .ok (.iconst 1, 1) := by decide +kernel
theorem dX6_pin_102 : decode cX6_pin 102 = .ok (.goto 4, 3) := by decide +kernel
theorem dX6_pin_105 : decode cX6_pin 105 = .ok (.iconst 0, 1) := by decide +kernel
theorem dX6_pin_106 : decode cX6_pin 106 = .ok (.istore 7, 2) := by decide +kernel
theorem dX6_pin_108 : decode cX6_pin 108 = .ok (.iload 7, 2) := by decide +kernel
theorem dX6_pin_110 : decode cX6_pin 110 = .ok (.ifCond .ne 19, 3) := by decide +kernel
theorem dX6_pin_113 : decode cX6_pin 113 = .ok (.iload_n 2, 1) := by decide +kernel
theorem dX6_pin_114 : decode cX6_pin 114 = .ok (.aload_n 0, 1) := by decide +kernel
theorem dX6_pin_115 : decode cX6_pin 115 = .ok (.getfield 42, 3) := by decide +kernel
theorem dX6_pin_118 : decode cX6_pin 118 = .ok (.getfield 73, 3) := by decide +kernel
theorem dX6_pin_121 : decode cX6_pin 121 = .ok (.iload_n 1, 1) := by decide +kernel
theorem dX6_pin_122 : decode cX6_pin 122 = .ok (.iaload, 1) := by decide +kernel
theorem dX6_pin_123 : decode cX6_pin 123 = .ok (.invokestatic 102, 3) := by decide +kernel
theorem dX6_pin_126 : decode cX6_pin 126 = .ok (.if_icmp .lt 5, 3) := by decide +kernel
theorem dX6_pin_129 : decode cX6_pin 129 = .ok (.iconst 0, 1) := by decide +kernel
theorem dX6_pin_130 : decode cX6_pin 130 = .ok (.ireturn, 1) := by decide +kernel
theorem dX6_pin_131 : decode cX6_pin 131 = .ok (.aload_n 0, 1) := by decide +kernel
theorem dX6_pin_132 : decode cX6_pin 132 = .ok (.getfield 35, 3) := by decide +kernel
theorem dX6_pin_135 : decode cX6_pin 135 = .ok (.invokevirtual 70, 3) := by decide +kernel
theorem dX6_pin_138 : decode cX6_pin 138 = .ok (.aload_n 0, 1) := by decide +kernel
theorem dX6_pin_139 : decode cX6_pin 139 = .ok (.getfield 49, 3) := by decide +kernel
theorem dX6_pin_142 : decode cX6_pin 142 = .ok (.aload_n 0, 1) := by decide +kernel
theorem dX6_pin_143 : decode cX6_pin 143 = .ok (.iload 4, 2) := by decide +kernel
theorem dX6_pin_145 : decode cX6_pin 145 = .ok (.invokevirtual 178, 3) := by decide +kernel
theorem dX6_pin_148 : decode cX6_pin 148 = .ok (.iconst 1, 1) := by decide +kernel
theorem dX6_pin_149 : decode cX6_pin 149 = .ok (.invokevirtual 171, 3) := by decide +kernel
theorem dX6_pin_152 : decode cX6_pin 152 = .ok (.iload 6, 2) := by decide +kernel
theorem dX6_pin_154 : decode cX6_pin 154 = .ok (.ireturn, 1) := by decide +kernel
theorem dX6_size_0 : decode cX6_size 0 = .ok (.iload_n 1, 1) := by decide +kernel
theorem dX6_size_1 : decode cX6_size 1 = .ok (.invokestatic 66, 3) := by decide +kernel
theorem dX6_size_4 : decode cX6_size 4 = .ok (.ifCond .eq 15, 3) := by decide +kernel
theorem dX6_size_7 : decode cX6_size 7 = .ok (.aload_n 0, 1) := by decide +kernel
theorem dX6_size_8 : decode cX6_size 8 = .ok (.getfield 42, 3) := by decide +kernel
theorem dX6_size_11 : decode cX6_size 11 = .ok (.getfield 73, 3) := by decide +kernel
theorem dX6_size_14 : decode cX6_size 14 = .ok (.iload_n 1, 1) := by decide +kernel
theorem dX6_size_15 : decode cX6_size 15 = .ok (.iaload, 1) := by decide +kernel
theorem dX6_size_16 : decode cX6_size 16 = .ok (.goto 5, 3) := by decide +kernel
theorem dX6_size_19 : decode cX6_size 19 = .ok (.bipush (-2), 2) := by decide +kernel
theorem dX6_size_21 : decode cX6_size 21 = .ok (.ireturn, 1) := by decide +kernel
theorem dX6_page_0 : decode cX6_page 0 = .ok (.iload_n 1, 1) := by decide +kernel
theorem dX6_page_1 : decode cX6_page 1 = .ok (.invokestatic 66, 3) := by decide +kernel
theorem dX6_page_4 : decode cX6_page 4 = .ok (.ifCond .eq 10, 3) := by decide +kernel
theorem dX6_page_7 : decode cX6_page 7 = .ok (.iload_n 2, 1) := by decide +kernel
theorem dX6_page_8 : decode cX6_page 8 = .ok (.invokestatic 115, 3) := by decide +kernel
theorem dX6_page_11 : decode cX6_page 11 = .ok (.ifCond .ne 6, 3) := by decide +kernel
theorem dX6_page_14 : decode cX6_page 14 = .ok (.bipush (-2), 2) := by decide +kernel
theorem dX6_page_16 : decode cX6_page 16 = .ok (.ireturn, 1) := by decide +kernel
theorem dX6_page_17 : decode cX6_page 17 = .ok (.iload_n 1, 1) := by decide +kernel
theorem dX6_page_18 : decode cX6_page 18 = .ok (.iload_n 2, 1) := by decide +kernel
theorem dX6_page_19 : decode cX6_page 19 = .ok (.invokestatic 105, 3) := by decide +kernel
theorem dX6_page_22 : decode cX6_page 22 = .ok (.istore 4, 2) := by decide +kernel
theorem dX6_page_24 : decode cX6_page 24 = .ok (.aload_n 0, 1) := by decide +kernel
theorem dX6_page_25 : decode cX6_page 25 = .ok (.getfield 49, 3) := by decide +kernel
theorem dX6_page_28 : decode cX6_page 28 = .ok (.iload 4, 2) := by decide +kernel
theorem dX6_page_30 : decode cX6_page 30 = .ok (.invokevirtual 118, 3) := by decide +kernel
theorem dX6_page_33 : decode cX6_page 33 = .ok (.istore 5, 2) := by decide +kernel
theorem dX6_page_35 : decode cX6_page 35 = .ok (.iload_n 3, 1) := by decide +kernel
theorem dX6_page_36 : decode cX6_page 36 = .ok (.tableswitch 175 0 7 #[48, 51, 59, 80, 90, 100, 125, 150], 48) := by decide +kernel
theorem dX6_page_84 : decode cX6_page 84 = .ok (.iload 5, 2) := by decide +kernel
theorem dX6_page_86 : decode cX6_page 86 = .ok (.ireturn, 1) := by decide +kernel
theorem dX6_page_87 : decode cX6_page 87 = .ok (.aload_n 0, 1) := by decide +kernel
theorem dX6_page_88 : decode cX6_page 88 = .ok (.getfield 9, 3) := by decide +kernel
theorem dX6_page_91 : decode cX6_page 91 = .ok (.iload 4, 2) := by decide +kernel
theorem dX6_page_93 : decode cX6_page 93 = .ok (.iaload, 1) := by decide +kernel
theorem dX6_page_94 : decode cX6_page 94 = .ok (.ireturn, 1) := by decide +kernel
theorem dX6_page_95 : decode cX6_page 95 = .ok (.iload 5, 2) := by decide +kernel
theorem dX6_page_97 : decode cX6_page 97 = .ok (.iconst (-1), 1) := by decide +kernel
theorem dX6_page_98 : decode cX6_page 98 = .ok (.if_icmp .ne 7, 3) := by decide +kernel
theorem dX6_page_101 : decode cX6_page 101 = .ok (.iconst (-1), 1) := by decide +kernel
theorem dX6_page_102 : decode cX6_page 102 = .ok (.goto 13, 3) := by decide +kernel
theorem dX6_page_105 : decode cX6_page 105 = .ok (.aload_n 0, 1) := by decide +kernel
theorem dX6_page_106 : decode cX6_page 106 = .ok (.getfield 49, 3) := by decide +kernel
theorem dX6_page_109 : decode cX6_page 109 = .ok (.getfield 181, 3) := by decide +kernel
theorem dX6_page_112 : decode cX6_page 112 = .ok (.iload 5, 2) := by decide +kernel
theorem dX6_page_114 : decode cX6_page 114 = .ok (.iaload, 1) := by decide +kernel
theorem dX6_page_115 : decode cX6_page 115 = .ok (.ireturn, 1) := by decide +kernel
theorem dX6_page_116 : decode cX6_page 116 = .ok (.aload_n 0, 1) := by decide +kernel
theorem dX6_page_117 : decode cX6_page 117 = .ok (.getfield 56, 3) := by decide +kernel
theorem dX6_page_120 : decode cX6_page 120 = .ok (.iload 4, 2) := by decide +kernel
theorem dX6_page_122 : decode cX6_page 122 = .ok (.invokevirtual 184, 3) := by decide +kernel
theorem dX6_page_125 : decode cX6_page 125 = .ok (.ireturn, 1) := by decide +kernel
theorem dX6_page_126 : decode cX6_page 126 = .ok (.aload_n 0, 1) := by decide +kernel
theorem dX6_page_127 : decode cX6_page 127 = .ok (.getfield 49, 3) := by decide +kernel
theorem dX6_page_130 : decode cX6_page 130 = .ok (.iload 5, 2) := by decide +kernel
theorem dX6_page_132 : decode cX6_page 132 = .ok (.invokevirtual 187, 3) := by decide +kernel
theorem dX6_page_135 : decode cX6_page 135 = .ok (.ireturn, 1) := by decide +kernel
theorem dX6_page_136 : decode cX6_page 136 = .ok (.iload 5, 2) := by decide +kernel
theorem dX6_page_138 : decode cX6_page 138 = .ok (.iconst (-1), 1) := by decide +kernel
theorem dX6_page_139 : decode cX6_page 139 = .ok (.if_icmp .eq 20, 3) := by decide +kernel
theorem dX6_page_142 : decode cX6_page 142 = .ok (.aload_n 0, 1) := by decide +kernel
theorem dX6_page_143 : decode cX6_page 143 = .ok (.getfield 49, 3) := by decide +kernel
theorem dX6_page_146 : decode cX6_page 146 = .ok (.getfield 190, 3) := by decide +kernel
theorem dX6_page_149 : decode cX6_page 149 = .ok (.iload 5, 2) := by decide +kernel
theorem dX6_page_151 : decode cX6_page 151 = .ok (.baload, 1) := by decide +kernel
theorem dX6_page_152 : decode cX6_page 152 = .ok (.ifCond .eq 7, 3) := by decide +kernel
theorem dX6_page_155 : decode cX6_page 155 = .ok (.iconst 1, 1) := by decide +kernel
theorem dX6_page_156 : decode cX6_page 156 = .ok (.goto 4, 3) := by decide +kernel
theorem dX6_page_159 : decode cX6_page 159 = .ok (.iconst 0, 1) := by decide +kernel
theorem dX6_page_160 : decode cX6_page 160 = .ok (.ireturn, 1) := by decide +kernel
theorem dX6_page_161 : decode cX6_page 161 = .ok (.iload 5, 2) := by decide +kernel
theorem dX6_page_163 : decode cX6_page 163 = .ok (.iconst (-1), 1) := by decide +kernel
theorem dX6_page_164 : decode cX6_page 164 = .ok (.if_icmp .eq 20, 3) := by decide +kernel
theorem dX6_page_167 : decode cX6_page 167 = .ok (.aload_n 0, 1) := by decide +kernel
theorem dX6_page_168 : decode cX6_page 168 = .ok (.getfield 49, 3) := by decide +kernel
theorem dX6_page_171 : decode cX6_page 171 = .ok (.getfield 146, 3) := by decide +kernel
theorem dX6_page_174 : decode cX6_page 174 = .ok (.iload 5, 2) := by decide +kernel
theorem dX6_page_176 : decode cX6_page 176 = .ok (.baload, 1) := by decide +kernel
theorem dX6_page_177 : decode cX6_page 177 = .ok (.ifCond .eq 7, 3) := by decide +kernel
theorem dX6_page_180 : decode cX6_page 180 = .ok (.iconst 1, 1) := by decide +kernel
theorem dX6_page_181 : decode cX6_page 181 = .ok (.goto 4, 3) := by decide +kernel
theorem dX6_page_184 : decode cX6_page 184 = .ok (.iconst 0, 1) := by decide +kernel
theorem dX6_page_185 : decode cX6_page 185 = .ok (.ireturn, 1) := by decide +kernel
theorem dX6_page_186 : decode cX6_page 186 = .ok (.iload 5, 2) := by decide +kernel
theorem dX6_page_188 : decode cX6_page 188 = .ok (.iconst (-1), 1) := by decide +kernel
theorem dX6_page_189 : decode cX6_page 189 = .ok (.if_icmp .eq 20, 3) := by decide +kernel
theorem dX6_page_192 : decode cX6_page 192 = .ok (.aload_n 0, 1) := by decide +kernel
theorem dX6_page_193 : decode cX6_page 193 = .ok (.getfield 49, 3) := by decide +kernel
theorem dX6_page_196 : decode cX6_page 196 = .ok (.getfield 193, 3) := by decide +kernel
theorem dX6_page_199 : decode cX6_page 199 = .ok (.iload 5, 2) := by decide +kernel
theorem dX6_page_201 : decode cX6_page 201 = .ok (.baload, 1) := by decide +kernel
theorem dX6_page_202 : decode cX6_page 202 = .ok (.ifCond .eq 7, 3) := by decide +kernel
theorem dX6_page_205 : decode cX6_page 205 = .ok (.iconst 1, 1) := by decide +kernel
theorem dX6_page_206 : decode cX6_page 206 = .ok (.goto 4, 3) := by decide +kernel
theorem dX6_page_209 : decode cX6_page 209 = .ok (.iconst 0, 1) := by decide +kernel
theorem dX6_page_210 : decode cX6_page 210 = .ok (.ireturn, 1) := by decide +kernel
theorem dX6_page_211 : decode cX6_page 211 = .ok (.bipush (-2), 2) := by decide +kernel
theorem dX6_page_213 : decode cX6_page 213 = .ok (.ireturn, 1) := by decide +kernel
theorem dX6_next_0 : decode cX6_next 0 = .ok (.iload_n 1, 1) := by decide +kernel
theorem dX6_next_1 : decode cX6_next 1 = .ok (.invokestatic 66, 3) := by decide +kernel
theorem dX6_next_4 : decode cX6_next 4 = .ok (.ifCond .eq 19, 3) := by decide +kernel
theorem dX6_next_7 : decode cX6_next 7 = .ok (.iload_n 2, 1) := by decide +kernel
theorem dX6_next_8 : decode cX6_next 8 = .ok (.invokestatic 115, 3) := by decide +kernel
theorem dX6_next_11 : decode cX6_next 11 = .ok (.ifCond .eq 12, 3) := by decide +kernel
theorem dX6_next_14 : decode cX6_next 14 = .ok (.iload_n 3, 1) := by decide +kernel
theorem dX6_next_15 : decode cX6_next 15 = .ok (.ifCond .lt 8, 3) := by decide +kernel
theorem dX6_next_18 : decode cX6_next 18 = .ok (.iload_n 3, 1) := by decide +kernel
theorem dX6_next_19 : decode cX6_next 19 = .ok (.iconst 4, 1) := by decide +kernel
theorem dX6_next_20 : decode cX6_next 20 = .ok (.if_icmp .le 6, 3) := by decide +kernel
theorem dX6_next_23 : decode cX6_next 23 = .ok (.bipush (-2), 2) := by decide +kernel
theorem dX6_next_25 : decode cX6_next 25 = .ok (.ireturn, 1) := by decide +kernel
theorem dX6_next_26 : decode cX6_next 26 = .ok (.iload_n 2, 1) := by decide +kernel
theorem dX6_next_27 : decode cX6_next 27 = .ok (.istore 4, 2) := by decide +kernel
theorem dX6_next_29 : decode cX6_next 29 = .ok (.iload 4, 2) := by decide +kernel
theorem dX6_next_31 : decode cX6_next 31 = .ok (.sipush 256, 3) := by decide +kernel
theorem dX6_next_34 : decode cX6_next 34 = .ok (.if_icmp .ge 26, 3) := by decide +kernel
theorem dX6_next_37 : decode cX6_next 37 = .ok (.aload_n 0, 1) := by decide +kernel
theorem dX6_next_38 : decode cX6_next 38 = .ok (.iload_n 1, 1) := by decide +kernel
theorem dX6_next_39 : decode cX6_next 39 = .ok (.iload 4, 2) := by decide +kernel
theorem dX6_next_41 : decode cX6_next 41 = .ok (.invokestatic 105, 3) := by decide +kernel
theorem dX6_next_44 : decode cX6_next 44 = .ok (.iload_n 3, 1) := by decide +kernel
theorem dX6_next_45 : decode cX6_next 45 = .ok (.invokevirtual 196, 3) := by decide +kernel
theorem dX6_next_48 : decode cX6_next 48 = .ok (.ifCond .eq 6, 3) := by decide +kernel
theorem dX6_next_51 : decode cX6_next 51 = .ok (.iload 4, 2) := by decide +kernel
theorem dX6_next_53 : decode cX6_next 53 = .ok (.ireturn, 1) := by decide +kernel
theorem dX6_next_54 : decode cX6_next 54 = .ok (.iinc 4 1, 3) := by decide +kernel
theorem dX6_next_57 : decode cX6_next 57 = .ok (.goto (-28), 3) := by decide +kernel
theorem dX6_next_60 : decode cX6_next 60 = .ok (.iconst (-1), 1) := by decide +kernel
theorem dX6_next_61 : decode cX6_next 61 = .ok (.ireturn, 1) := by decide +kernel
theorem dX6_tree_0 : decode cX6_tree 0 = .ok (.iload_n 1, 1) := by decide +kernel
theorem dX6_tree_1 : decode cX6_tree 1 = .ok (.invokestatic 66, 3) := by decide +kernel
theorem dX6_tree_4 : decode cX6_tree 4 = .ok (.ifCond .ne 6, 3) := by decide +kernel
theorem dX6_tree_7 : decode cX6_tree 7 = .ok (.bipush (-2), 2) := by decide +kernel
theorem dX6_tree_9 : decode cX6_tree 9 = .ok (.ireturn, 1) := by decide +kernel
theorem dX6_tree_10 : decode cX6_tree 10 = .ok (.iload_n 2, 1) := by decide +kernel
theorem dX6_tree_11 : decode cX6_tree 11 = .ok (.tableswitch 85 0 5 #[37, 43, 49, 55, 65, 75], 37) := by decide +kernel
theorem dX6_tree_48 : decode cX6_tree 48 = .ok (.aload_n 0, 1) := by decide +kernel
theorem dX6_tree_49 : decode cX6_tree 49 = .ok (.iload_n 1, 1) := by decide +kernel
theorem dX6_tree_50 : decode cX6_tree 50 = .ok (.invokevirtual 199, 3) := by decide +kernel
theorem dX6_tree_53 : decode cX6_tree 53 = .ok (.ireturn, 1) := by decide +kernel
theorem dX6_tree_54 : decode cX6_tree 54 = .ok (.aload_n 0, 1) := by decide +kernel
theorem dX6_tree_55 : decode cX6_tree 55 = .ok (.iload_n 1, 1) := by decide +kernel
theorem dX6_tree_56 : decode cX6_tree 56 = .ok (.invokevirtual 202, 3) := by decide +kernel
theorem dX6_tree_59 : decode cX6_tree 59 = .ok (.ireturn, 1) := by decide +kernel
theorem dX6_tree_60 : decode cX6_tree 60 = .ok (.aload_n 0, 1) := by decide +kernel
theorem dX6_tree_61 : decode cX6_tree 61 = .ok (.iload_n 1, 1) := by decide +kernel
theorem dX6_tree_62 : decode cX6_tree 62 = .ok (.invokevirtual 205, 3) := by decide +kernel
theorem dX6_tree_65 : decode cX6_tree 65 = .ok (.ireturn, 1) := by decide +kernel
theorem dX6_tree_66 : decode cX6_tree 66 = .ok (.aload_n 0, 1) := by decide +kernel
theorem dX6_tree_67 : decode cX6_tree 67 = .ok (.getfield 42, 3) := by decide +kernel
theorem dX6_tree_70 : decode cX6_tree 70 = .ok (.getfield 208, 3) := by decide +kernel
theorem dX6_tree_73 : decode cX6_tree 73 = .ok (.iload_n 1, 1) := by decide +kernel
theorem dX6_tree_74 : decode cX6_tree 74 = .ok (.iaload, 1) := by decide +kernel
theorem dX6_tree_75 : decode cX6_tree 75 = .ok (.ireturn, 1) := by decide +kernel
theorem dX6_tree_76 : decode cX6_tree 76 = .ok (.aload_n 0, 1) := by decide +kernel
theorem dX6_tree_77 : decode cX6_tree 77 = .ok (.getfield 42, 3) := by decide +kernel
theorem dX6_tree_80 : decode cX6_tree 80 = .ok (.getfield 211, 3) := by decide +kernel
theorem dX6_tree_83 : decode cX6_tree 83 = .ok (.iload_n 1, 1) := by decide +kernel
theorem dX6_tree_84 : decode cX6_tree 84 = .ok (.iaload, 1) := by decide +kernel
theorem dX6_tree_85 : decode cX6_tree 85 = .ok (.ireturn, 1) := by decide +kernel
theorem dX6_tree_86 : decode cX6_tree 86 = .ok (.aload_n 0, 1) := by decide +kernel
theorem dX6_tree_87 : decode cX6_tree 87 = .ok (.getfield 42, 3) := by decide +kernel
theorem dX6_tree_90 : decode cX6_tree 90 = .ok (.getfield 127, 3) := by decide +kernel
theorem dX6_tree_93 : decode cX6_tree 93 = .ok (.iload_n 1, 1) := by decide +kernel
theorem dX6_tree_94 : decode cX6_tree 94 = .ok (.iaload, 1) := by decide +kernel
theorem dX6_tree_95 : decode cX6_tree 95 = .ok (.ireturn, 1) := by decide +kernel
theorem dX6_tree_96 : decode cX6_tree 96 = .ok (.bipush (-2), 2) := by decide +kernel
theorem dX6_tree_98 : decode cX6_tree 98 = .ok (.ireturn, 1) := by decide +kernel
theorem dX6_listed_0 : decode cX6_listed 0 = .ok (.iload_n 1, 1) := by decide +kernel
theorem dX6_listed_1 : decode cX6_listed 1 = .ok (.ifCond .eq 17, 3) := by decide +kernel
theorem dX6_listed_4 : decode cX6_listed 4 = .ok (.aload_n 0, 1) := by decide +kernel
theorem dX6_listed_5 : decode cX6_listed 5 = .ok (.getfield 49, 3) := by decide +kernel
theorem dX6_listed_8 : decode cX6_listed 8 = .ok (.getfield 214, 3) := by decide +kernel
theorem dX6_listed_11 : decode cX6_listed 11 = .ok (.iload_n 2, 1) := by decide +kernel
theorem dX6_listed_12 : decode cX6_listed 12 = .ok (.invokevirtual 218, 3) := by decide +kernel
theorem dX6_listed_15 : decode cX6_listed 15 = .ok (.goto 14, 3) := by decide +kernel
theorem dX6_listed_18 : decode cX6_listed 18 = .ok (.aload_n 0, 1) := by decide +kernel
theorem dX6_listed_19 : decode cX6_listed 19 = .ok (.getfield 49, 3) := by decide +kernel
theorem dX6_listed_22 : decode cX6_listed 22 = .ok (.getfield 223, 3) := by decide +kernel
theorem dX6_listed_25 : decode cX6_listed 25 = .ok (.iload_n 2, 1) := by decide +kernel
theorem dX6_listed_26 : decode cX6_listed 26 = .ok (.invokevirtual 218, 3) := by decide +kernel
theorem dX6_listed_29 : decode cX6_listed 29 = .ok (.istore_n 3, 1) := by decide +kernel
theorem dX6_listed_30 : decode cX6_listed 30 = .ok (.iload_n 3, 1) := by decide +kernel
theorem dX6_listed_31 : decode cX6_listed 31 = .ok (.iconst (-1), 1) := by decide +kernel
theorem dX6_listed_32 : decode cX6_listed 32 = .ok (.if_icmp .ne 7, 3) := by decide +kernel
theorem dX6_listed_35 : decode cX6_listed 35 = .ok (.iconst (-1), 1) := by decide +kernel
theorem dX6_listed_36 : decode cX6_listed 36 = .ok (.goto 12, 3) := by decide +kernel
theorem dX6_listed_39 : decode cX6_listed 39 = .ok (.aload_n 0, 1) := by decide +kernel
theorem dX6_listed_40 : decode cX6_listed 40 = .ok (.getfield 49, 3) := by decide +kernel
theorem dX6_listed_43 : decode cX6_listed 43 = .ok (.getfield 226, 3) := by decide +kernel
theorem dX6_listed_46 : decode cX6_listed 46 = .ok (.iload_n 3, 1) := by decide +kernel
theorem dX6_listed_47 : decode cX6_listed 47 = .ok (.iaload, 1) := by decide +kernel
theorem dX6_listed_48 : decode cX6_listed 48 = .ok (.ireturn, 1) := by decide +kernel
theorem dX6_disk_0 : decode cX6_disk 0 = .ok (.aload_n 0, 1) := by decide +kernel
theorem dX6_disk_1 : decode cX6_disk 1 = .ok (.getfield 35, 3) := by decide +kernel
theorem dX6_disk_4 : decode cX6_disk 4 = .ok (.iload_n 1, 1) := by decide +kernel
theorem dX6_disk_5 : decode cX6_disk 5 = .ok (.invokevirtual 165, 3) := by decide +kernel
theorem dX6_disk_8 : decode cX6_disk 8 = .ok (.ifCond .eq 13, 3) := by decide +kernel
theorem dX6_disk_11 : decode cX6_disk 11 = .ok (.iload_n 2, 1) := by decide +kernel
theorem dX6_disk_12 : decode cX6_disk 12 = .ok (.ifCond .lt 9, 3) := by decide +kernel
theorem dX6_disk_15 : decode cX6_disk 15 = .ok (.iload_n 2, 1) := by decide +kernel
theorem dX6_disk_16 : decode cX6_disk 16 = .ok (.bipush 64, 2) := by decide +kernel
theorem dX6_disk_18 : decode cX6_disk 18 = .ok (.if_icmp .lt 6, 3) := by decide +kernel
theorem dX6_disk_21 : decode cX6_disk 21 = .ok (.bipush (-2), 2) := by decide +kernel
theorem dX6_disk_23 : decode cX6_disk 23 = .ok (.ireturn, 1) := by decide +kernel
theorem dX6_disk_24 : decode cX6_disk 24 = .ok (.aload_n 0, 1) := by decide +kernel
theorem dX6_disk_25 : decode cX6_disk 25 = .ok (.getfield 35, 3) := by decide +kernel
theorem dX6_disk_28 : decode cX6_disk 28 = .ok (.getfield 229, 3) := by decide +kernel
theorem dX6_disk_31 : decode cX6_disk 31 = .ok (.iload_n 1, 1) := by decide +kernel
theorem dX6_disk_32 : decode cX6_disk 32 = .ok (.bipush 64, 2) := by decide +kernel
theorem dX6_disk_34 : decode cX6_disk 34 = .ok (.imul, 1) := by decide +kernel
theorem dX6_disk_35 : decode cX6_disk 35 = .ok (.iload_n 2, 1) := by decide +kernel
theorem dX6_disk_36 : decode cX6_disk 36 = .ok (.iadd, 1) := by decide +kernel
theorem dX6_disk_37 : decode cX6_disk 37 = .ok (.invokevirtual 86, 3) := by decide +kernel
theorem dX6_disk_40 : decode cX6_disk 40 = .ok (.ireturn, 1) := by decide +kernel
theorem dX6_run_0 : decode cX6_run 0 = .ok (.iload_n 2, 1) := by decide +kernel
theorem dX6_run_1 : decode cX6_run 1 = .ok (.ifCond .lt 8, 3) := by decide +kernel
theorem dX6_run_4 : decode cX6_run 4 = .ok (.iload_n 2, 1) := by decide +kernel
theorem dX6_run_5 : decode cX6_run 5 = .ok (.iconst 2, 1) := by decide +kernel
theorem dX6_run_6 : decode cX6_run 6 = .ok (.if_icmp .le 6, 3) := by decide +kernel
theorem dX6_run_9 : decode cX6_run 9 = .ok (.bipush (-2), 2) := by decide +kernel
theorem dX6_run_11 : decode cX6_run 11 = .ok (.ireturn, 1) := by decide +kernel
theorem dX6_run_12 : decode cX6_run 12 = .ok (.iload_n 1, 1) := by decide +kernel
theorem dX6_run_13 : decode cX6_run 13 = .ok (.ifCond .lt 14, 3) := by decide +kernel
theorem dX6_run_16 : decode cX6_run 16 = .ok (.iload_n 1, 1) := by decide +kernel
theorem dX6_run_17 : decode cX6_run 17 = .ok (.aload_n 0, 1) := by decide +kernel
theorem dX6_run_18 : decode cX6_run 18 = .ok (.getfield 35, 3) := by decide +kernel
theorem dX6_run_21 : decode cX6_run 21 = .ok (.getfield 232, 3) := by decide +kernel
theorem dX6_run_24 : decode cX6_run 24 = .ok (.if_icmp .lt 5, 3) := by decide +kernel
theorem dX6_run_27 : decode cX6_run 27 = .ok (.iconst (-1), 1) := by decide +kernel
theorem dX6_run_28 : decode cX6_run 28 = .ok (.ireturn, 1) := by decide +kernel
theorem dX6_run_29 : decode cX6_run 29 = .ok (.iload_n 2, 1) := by decide +kernel
theorem dX6_run_30 : decode cX6_run 30 = .ok (.lookupswitch 46 #[(0, 26), (1, 36)], 26) := by decide +kernel
theorem dX6_run_56 : decode cX6_run 56 = .ok (.aload_n 0, 1) := by decide +kernel
theorem dX6_run_57 : decode cX6_run 57 = .ok (.getfield 35, 3) := by decide +kernel
theorem dX6_run_60 : decode cX6_run 60 = .ok (.getfield 235, 3) := by decide +kernel
theorem dX6_run_63 : decode cX6_run 63 = .ok (.iload_n 1, 1) := by decide +kernel
theorem dX6_run_64 : decode cX6_run 64 = .ok (.iaload, 1) := by decide +kernel
theorem dX6_run_65 : decode cX6_run 65 = .ok (.ireturn, 1) := by decide +kernel
theorem dX6_run_66 : decode cX6_run 66 = .ok (.aload_n 0, 1) := by decide +kernel
theorem dX6_run_67 : decode cX6_run 67 = .ok (.getfield 35, 3) := by decide +kernel
theorem dX6_run_70 : decode cX6_run 70 = .ok (.getfield 238, 3) := by decide +kernel
theorem dX6_run_73 : decode cX6_run 73 = .ok (.iload_n 1, 1) := by decide +kernel
theorem dX6_run_74 : decode cX6_run 74 = .ok (.iaload, 1) := by decide +kernel
theorem dX6_run_75 : decode cX6_run 75 = .ok (.ireturn, 1) := by decide +kernel
theorem dX6_run_76 : decode cX6_run 76 = .ok (.aload_n 0, 1) := by decide +kernel
theorem dX6_run_77 : decode cX6_run 77 = .ok (.getfield 35, 3) := by decide +kernel
theorem dX6_run_80 : decode cX6_run 80 = .ok (.getfield 241, 3) := by decide +kernel
theorem dX6_run_83 : decode cX6_run 83 = .ok (.iload_n 1, 1) := by decide +kernel
theorem dX6_run_84 : decode cX6_run 84 = .ok (.iaload, 1) := by decide +kernel
theorem dX6_run_85 : decode cX6_run 85 = .ok (.ireturn, 1) := by decide +kernel
theorem dX6_told_0 : decode cX6_told 0 = .ok (.iload_n 1, 1) := by decide +kernel
theorem dX6_told_1 : decode cX6_told 1 = .ok (.tableswitch 173 0 11 #[63, 85, 96, 104, 112, 120, 128, 136, 144, 152, 157, 165], 63) := by decide +kernel
theorem dX6_told_64 : decode cX6_told 64 = .ok (.aload_n 0, 1) := by decide +kernel
theorem dX6_told_65 : decode cX6_told 65 = .ok (.getfield 49, 3) := by decide +kernel
theorem dX6_told_68 : decode cX6_told 68 = .ok (.getfield 214, 3) := by decide +kernel
theorem dX6_told_71 : decode cX6_told 71 = .ok (.getfield 244, 3) := by decide +kernel
theorem dX6_told_74 : decode cX6_told 74 = .ok (.aload_n 0, 1) := by decide +kernel
theorem dX6_told_75 : decode cX6_told 75 = .ok (.getfield 49, 3) := by decide +kernel
theorem dX6_told_78 : decode cX6_told 78 = .ok (.getfield 223, 3) := by decide +kernel
theorem dX6_told_81 : decode cX6_told 81 = .ok (.getfield 244, 3) := by decide +kernel
theorem dX6_told_84 : decode cX6_told 84 = .ok (.iadd, 1) := by decide +kernel
theorem dX6_told_85 : decode cX6_told 85 = .ok (.ireturn, 1) := by decide +kernel
theorem dX6_told_86 : decode cX6_told 86 = .ok (.aload_n 0, 1) := by decide +kernel
theorem dX6_told_87 : decode cX6_told 87 = .ok (.getfield 49, 3) := by decide +kernel
theorem dX6_told_90 : decode cX6_told 90 = .ok (.getfield 214, 3) := by decide +kernel
theorem dX6_told_93 : decode cX6_told 93 = .ok (.getfield 244, 3) := by decide +kernel
theorem dX6_told_96 : decode cX6_told 96 = .ok (.ireturn, 1) := by decide +kernel
theorem dX6_told_97 : decode cX6_told 97 = .ok (.aload_n 0, 1) := by decide +kernel
theorem dX6_told_98 : decode cX6_told 98 = .ok (.getfield 49, 3) := by decide +kernel
theorem dX6_told_101 : decode cX6_told 101 = .ok (.getfield 153, 3) := by decide +kernel
theorem dX6_told_104 : decode cX6_told 104 = .ok (.ireturn, 1) := by decide +kernel
theorem dX6_told_105 : decode cX6_told 105 = .ok (.aload_n 0, 1) := by decide +kernel
theorem dX6_told_106 : decode cX6_told 106 = .ok (.getfield 49, 3) := by decide +kernel
theorem dX6_told_109 : decode cX6_told 109 = .ok (.getfield 175, 3) := by decide +kernel
theorem dX6_told_112 : decode cX6_told 112 = .ok (.ireturn, 1) := by decide +kernel
theorem dX6_told_113 : decode cX6_told 113 = .ok (.aload_n 0, 1) := by decide +kernel
theorem dX6_told_114 : decode cX6_told 114 = .ok (.getfield 56, 3) := by decide +kernel
theorem dX6_told_117 : decode cX6_told 117 = .ok (.getfield 247, 3) := by decide +kernel
theorem dX6_told_120 : decode cX6_told 120 = .ok (.ireturn, 1) := by decide +kernel
theorem dX6_told_121 : decode cX6_told 121 = .ok (.aload_n 0, 1) := by decide +kernel
theorem dX6_told_122 : decode cX6_told 122 = .ok (.getfield 56, 3) := by decide +kernel
theorem dX6_told_125 : decode cX6_told 125 = .ok (.getfield 248, 3) := by decide +kernel
theorem dX6_told_128 : decode cX6_told 128 = .ok (.ireturn, 1) := by decide +kernel
theorem dX6_told_129 : decode cX6_told 129 = .ok (.aload_n 0, 1) := by decide +kernel
theorem dX6_told_130 : decode cX6_told 130 = .ok (.getfield 35, 3) := by decide +kernel
theorem dX6_told_133 : decode cX6_told 133 = .ok (.getfield 251, 3) := by decide +kernel
theorem dX6_told_136 : decode cX6_told 136 = .ok (.ireturn, 1) := by decide +kernel
theorem dX6_told_137 : decode cX6_told 137 = .ok (.aload_n 0, 1) := by decide +kernel
theorem dX6_told_138 : decode cX6_told 138 = .ok (.getfield 35, 3) := by decide +kernel
theorem dX6_told_141 : decode cX6_told 141 = .ok (.getfield 254, 3) := by decide +kernel
theorem dX6_told_144 : decode cX6_told 144 = .ok (.ireturn, 1) := by decide +kernel
theorem dX6_told_145 : decode cX6_told 145 = .ok (.aload_n 0, 1) := by decide +kernel
theorem dX6_told_146 : decode cX6_told 146 = .ok (.getfield 35, 3) := by decide +kernel
theorem dX6_told_149 : decode cX6_told 149 = .ok (.getfield 257, 3) := by decide +kernel
theorem dX6_told_152 : decode cX6_told 152 = .ok (.ireturn, 1) := by decide +kernel
theorem dX6_told_153 : decode cX6_told 153 = .ok (.aload_n 0, 1) := by decide +kernel
theorem dX6_told_154 : decode cX6_told 154 = .ok (.getfield 29, 3) := by decide +kernel
theorem dX6_told_157 : decode cX6_told 157 = .ok (.ireturn, 1) := by decide +kernel
theorem dX6_told_158 : decode cX6_told 158 = .ok (.aload_n 0, 1) := by decide +kernel
theorem dX6_told_159 : decode cX6_told 159 = .ok (.getfield 35, 3) := by decide +kernel
theorem dX6_told_162 : decode cX6_told 162 = .ok (.getfield 232, 3) := by decide +kernel
theorem dX6_told_165 : decode cX6_told 165 = .ok (.ireturn, 1) := by decide +kernel
theorem dX6_told_166 : decode cX6_told 166 = .ok (.aload_n 0, 1) := by decide +kernel
theorem dX6_told_167 : decode cX6_told 167 = .ok (.getfield 42, 3) := by decide +kernel
theorem dX6_told_170 : decode cX6_told 170 = .ok (.invokevirtual 260, 3) := by decide +kernel
theorem dX6_told_173 : decode cX6_told 173 = .ok (.ireturn, 1) := by decide +kernel
theorem dX6_told_174 : decode cX6_told 174 = .ok (.bipush (-2), 2) := by decide +kernel
theorem dX6_told_176 : decode cX6_told 176 = .ok (.ireturn, 1) := by decide +kernel
theorem dX6_isFile_0 : decode cX6_isFile 0 = .ok (.iload_n 0, 1) := by decide +kernel
theorem dX6_isFile_1 : decode cX6_isFile 1 = .ok (.ifCond .lt 13, 3) := by decide +kernel
theorem dX6_isFile_4 : decode cX6_isFile 4 = .ok (.iload_n 0, 1) := by decide +kernel
theorem dX6_isFile_5 : decode cX6_isFile 5 = .ok (.bipush 12, 2) := by decide +kernel
theorem dX6_isFile_7 : decode cX6_isFile 7 = .ok (.if_icmp .ge 7, 3) := by decide +kernel
theorem dX6_isFile_10 : decode cX6_isFile 10 = .ok (.iconst 1, 1) := by decide +kernel
theorem dX6_isFile_11 : decode cX6_isFile 11 = .ok (.goto 4, 3) := by decide +kernel
theorem dX6_isFile_14 : decode cX6_isFile 14 = .ok (.iconst 0, 1) := by decide +kernel
theorem dX6_isFile_15 : decode cX6_isFile 15 = .ok (.ireturn, 1) := by decide +kernel
theorem dX6_isPage_0 : decode cX6_isPage 0 = .ok (.iload_n 0, 1) := by decide +kernel
theorem dX6_isPage_1 : decode cX6_isPage 1 = .ok (.ifCond .lt 14, 3) := by decide +kernel
theorem dX6_isPage_4 : decode cX6_isPage 4 = .ok (.iload_n 0, 1) := by decide +kernel
theorem dX6_isPage_5 : decode cX6_isPage 5 = .ok (.sipush 256, 3) := by decide +kernel
theorem dX6_isPage_8 : decode cX6_isPage 8 = .ok (.if_icmp .ge 7, 3) := by decide +kernel
theorem dX6_isPage_11 : decode cX6_isPage 11 = .ok (.iconst 1, 1) := by decide +kernel
theorem dX6_isPage_12 : decode cX6_isPage 12 = .ok (.goto 4, 3) := by decide +kernel
theorem dX6_isPage_15 : decode cX6_isPage 15 = .ok (.iconst 0, 1) := by decide +kernel
theorem dX6_isPage_16 : decode cX6_isPage 16 = .ok (.ireturn, 1) := by decide +kernel
theorem dX6_isStretch_0 : decode cX6_isStretch 0 = .ok (.iload_n 0, 1) := by decide +kernel
theorem dX6_isStretch_1 : decode cX6_isStretch 1 = .ok (.invokestatic 66, 3) := by decide +kernel
theorem dX6_isStretch_4 : decode cX6_isStretch 4 = .ok (.ifCond .eq 20, 3) := by decide +kernel
theorem dX6_isStretch_7 : decode cX6_isStretch 7 = .ok (.iload_n 1, 1) := by decide +kernel
theorem dX6_isStretch_8 : decode cX6_isStretch 8 = .ok (.ifCond .lt 16, 3) := by decide +kernel
theorem dX6_isStretch_11 : decode cX6_isStretch 11 = .ok (.iload_n 1, 1) := by decide +kernel
theorem dX6_isStretch_12 : decode cX6_isStretch 12 = .ok (.sipush 16384, 3) := by decide +kernel
theorem dX6_isStretch_15 : decode cX6_isStretch 15 = .ok (.iload_n 2, 1) := by decide +kernel
theorem dX6_isStretch_16 : decode cX6_isStretch 16 = .ok (.isub, 1) := by decide +kernel
theorem dX6_isStretch_17 : decode cX6_isStretch 17 = .ok (.if_icmp .gt 7, 3) := by decide +kernel
theorem dX6_isStretch_20 : decode cX6_isStretch 20 = .ok (.iconst 1, 1) := by decide +kernel
theorem dX6_isStretch_21 : decode cX6_isStretch 21 = .ok (.goto 4, 3) := by decide +kernel
theorem dX6_isStretch_24 : decode cX6_isStretch 24 = .ok (.iconst 0, 1) := by decide +kernel
theorem dX6_isStretch_25 : decode cX6_isStretch 25 = .ok (.ireturn, 1) := by decide +kernel
theorem dX6_spotOf_0 : decode cX6_spotOf 0 = .ok (.iload_n 0, 1) := by decide +kernel
theorem dX6_spotOf_1 : decode cX6_spotOf 1 = .ok (.sipush 256, 3) := by decide +kernel
theorem dX6_spotOf_4 : decode cX6_spotOf 4 = .ok (.imul, 1) := by decide +kernel
theorem dX6_spotOf_5 : decode cX6_spotOf 5 = .ok (.iload_n 1, 1) := by decide +kernel
theorem dX6_spotOf_6 : decode cX6_spotOf 6 = .ok (.iadd, 1) := by decide +kernel
theorem dX6_spotOf_7 : decode cX6_spotOf 7 = .ok (.ireturn, 1) := by decide +kernel
theorem dX6_pagesIn_0 : decode cX6_pagesIn 0 = .ok (.iload_n 0, 1) := by decide +kernel
theorem dX6_pagesIn_1 : decode cX6_pagesIn 1 = .ok (.bipush 64, 2) := by decide +kernel
theorem dX6_pagesIn_3 : decode cX6_pagesIn 3 = .ok (.iadd, 1) := by decide +kernel
theorem dX6_pagesIn_4 : decode cX6_pagesIn 4 = .ok (.iconst 1, 1) := by decide +kernel
theorem dX6_pagesIn_5 : decode cX6_pagesIn 5 = .ok (.isub, 1) := by decide +kernel
theorem dX6_pagesIn_6 : decode cX6_pagesIn 6 = .ok (.bipush 64, 2) := by decide +kernel
theorem dX6_pagesIn_8 : decode cX6_pagesIn 8 = .ok (.idiv, 1) := by decide +kernel
theorem dX6_pagesIn_9 : decode cX6_pagesIn 9 = .ok (.ireturn, 1) := by decide +kernel
theorem dX6_readPage_0 : decode cX6_readPage 0 = .ok (.iload_n 1, 1) := by decide +kernel
theorem dX6_readPage_1 : decode cX6_readPage 1 = .ok (.iload_n 2, 1) := by decide +kernel
theorem dX6_readPage_2 : decode cX6_readPage 2 = .ok (.invokestatic 105, 3) := by decide +kernel
theorem dX6_readPage_5 : decode cX6_readPage 5 = .ok (.istore 5, 2) := by decide +kernel
theorem dX6_readPage_7 : decode cX6_readPage 7 = .ok (.aload_n 0, 1) := by decide +kernel
theorem dX6_readPage_8 : decode cX6_readPage 8 = .ok (.getfield 49, 3) := by decide +kernel
theorem dX6_readPage_11 : decode cX6_readPage 11 = .ok (.iload 5, 2) := by decide +kernel
theorem dX6_readPage_13 : decode cX6_readPage 13 = .ok (.invokevirtual 118, 3) := by decide +kernel
theorem dX6_readPage_16 : decode cX6_readPage 16 = .ok (.iconst (-1), 1) := by decide +kernel
theorem dX6_readPage_17 : decode cX6_readPage 17 = .ok (.if_icmp .ne 7, 3) := by decide +kernel
theorem dX6_readPage_20 : decode cX6_readPage 20 = .ok (.iconst 1, 1) := by decide +kernel
theorem dX6_readPage_21 : decode cX6_readPage 21 = .ok (.goto 4, 3) := by decide +kernel
theorem dX6_readPage_24 : decode cX6_readPage 24 = .ok (.iconst 0, 1) := by decide +kernel
theorem dX6_readPage_25 : decode cX6_readPage 25 = .ok (.istore 6, 2) := by decide +kernel
theorem dX6_readPage_27 : decode cX6_readPage 27 = .ok (.aload_n 0, 1) := by decide +kernel
theorem dX6_readPage_28 : decode cX6_readPage 28 = .ok (.iload 5, 2) := by decide +kernel
theorem dX6_readPage_30 : decode cX6_readPage 30 = .ok (.invokevirtual 178, 3) := by decide +kernel
theorem dX6_readPage_33 : decode cX6_readPage 33 = .ok (.istore 7, 2) := by decide +kernel
theorem dX6_readPage_35 : decode cX6_readPage 35 = .ok (.iload 7, 2) := by decide +kernel
theorem dX6_readPage_37 : decode cX6_readPage 37 = .ok (.iconst (-1), 1) := by decide +kernel
theorem dX6_readPage_38 : decode cX6_readPage 38 = .ok (.if_icmp .ne 5, 3) := by decide +kernel
theorem dX6_readPage_41 : decode cX6_readPage 41 = .ok (.iconst (-1), 1) := by decide +kernel
theorem dX6_readPage_42 : decode cX6_readPage 42 = .ok (.ireturn, 1) := by decide +kernel
theorem dX6_readPage_43 : decode cX6_readPage 43 = .ok (.iload_n 2, 1) := by decide +kernel
theorem dX6_readPage_44 : decode cX6_readPage 44 = .ok (.bipush 64, 2) := by decide +kernel
theorem dX6_readPage_46 : decode cX6_readPage 46 = .ok (.imul, 1) := by decide +kernel
theorem dX6_readPage_47 : decode cX6_readPage 47 = .ok (.istore 8, 2) := by decide +kernel
theorem dX6_readPage_49 : decode cX6_readPage 49 = .ok (.iload 4, 2) := by decide +kernel
theorem dX6_readPage_51 : decode cX6_readPage 51 = .ok (.iload 8, 2) := by decide +kernel
theorem dX6_readPage_53 : decode cX6_readPage 53 = .ok (.bipush 64, 2) := by decide +kernel
theorem dX6_readPage_55 : decode cX6_readPage 55 = .ok (.iadd, 1) := by decide +kernel
theorem dX6_readPage_56 : decode cX6_readPage 56 = .ok (.invokestatic 76, 3) := by decide +kernel
theorem dX6_readPage_59 : decode cX6_readPage 59 = .ok (.istore 9, 2) := by decide +kernel
theorem dX6_readPage_61 : decode cX6_readPage 61 = .ok (.iload_n 3, 1) := by decide +kernel
theorem dX6_readPage_62 : decode cX6_readPage 62 = .ok (.iload 8, 2) := by decide +kernel
theorem dX6_readPage_64 : decode cX6_readPage 64 = .ok (.invokestatic 263, 3) := by decide +kernel
theorem dX6_readPage_67 : decode cX6_readPage 67 = .ok (.istore 10, 2) := by decide +kernel
theorem dX6_readPage_69 : decode cX6_readPage 69 = .ok (.iload 10, 2) := by decide +kernel
theorem dX6_readPage_71 : decode cX6_readPage 71 = .ok (.iload 9, 2) := by decide +kernel
theorem dX6_readPage_73 : decode cX6_readPage 73 = .ok (.if_icmp .ge 41, 3) := by decide +kernel
theorem dX6_readPage_76 : decode cX6_readPage 76 = .ok (.aload_n 0, 1) := by decide +kernel
theorem dX6_readPage_77 : decode cX6_readPage 77 = .ok (.getfield 18, 3) := by decide +kernel
theorem dX6_readPage_80 : decode cX6_readPage 80 = .ok (.iload 10, 2) := by decide +kernel
theorem dX6_readPage_82 : decode cX6_readPage 82 = .ok (.iload_n 3, 1) := by decide +kernel
theorem dX6_readPage_83 : decode cX6_readPage 83 = .ok (.isub, 1) := by decide +kernel
theorem dX6_readPage_84 : decode cX6_readPage 84 = .ok (.aload_n 0, 1) := by decide +kernel
theorem dX6_readPage_85 : decode cX6_readPage 85 = .ok (.getfield 49, 3) := by decide +kernel
theorem dX6_readPage_88 : decode cX6_readPage 88 = .ok (.getfield 266, 3) := by decide +kernel
theorem dX6_readPage_91 : decode cX6_readPage 91 = .ok (.iload 7, 2) := by decide +kernel
theorem dX6_readPage_93 : decode cX6_readPage 93 = .ok (.bipush 64, 2) := by decide +kernel
theorem dX6_readPage_95 : decode cX6_readPage 95 = .ok (.imul, 1) := by decide +kernel
theorem dX6_readPage_96 : decode cX6_readPage 96 = .ok (.iload 10, 2) := by decide +kernel
theorem dX6_readPage_98 : decode cX6_readPage 98 = .ok (.iadd, 1) := by decide +kernel
theorem dX6_readPage_99 : decode cX6_readPage 99 = .ok (.iload 8, 2) := by decide +kernel
theorem dX6_readPage_101 : decode cX6_readPage 101 = .ok (.isub, 1) := by decide +kernel
theorem dX6_readPage_102 : decode cX6_readPage 102 = .ok (.invokevirtual 86, 3) := by decide +kernel
theorem dX6_readPage_105 : decode cX6_readPage 105 = .ok (.invokevirtual 94, 3) := by decide +kernel
theorem dX6_readPage_108 : decode cX6_readPage 108 = .ok (.iinc 10 1, 3) := by decide +kernel
theorem dX6_readPage_111 : decode cX6_readPage 111 = .ok (.goto (-42), 3) := by decide +kernel
theorem dX6_readPage_114 : decode cX6_readPage 114 = .ok (.iload 6, 2) := by decide +kernel
theorem dX6_readPage_116 : decode cX6_readPage 116 = .ok (.ifCond .eq 9, 3) := by decide +kernel
theorem dX6_readPage_119 : decode cX6_readPage 119 = .ok (.aload_n 0, 1) := by decide +kernel
theorem dX6_readPage_120 : decode cX6_readPage 120 = .ok (.iload_n 1, 1) := by decide +kernel
theorem dX6_readPage_121 : decode cX6_readPage 121 = .ok (.iload_n 2, 1) := by decide +kernel
theorem dX6_readPage_122 : decode cX6_readPage 122 = .ok (.invokevirtual 267, 3) := by decide +kernel
theorem dX6_readPage_125 : decode cX6_readPage 125 = .ok (.iload 9, 2) := by decide +kernel
theorem dX6_readPage_127 : decode cX6_readPage 127 = .ok (.ireturn, 1) := by decide +kernel
theorem dX6_bringAhead_0 : decode cX6_bringAhead 0 = .ok (.aload_n 0, 1) := by decide +kernel
theorem dX6_bringAhead_1 : decode cX6_bringAhead 1 = .ok (.getfield 42, 3) := by decide +kernel
theorem dX6_bringAhead_4 : decode cX6_bringAhead 4 = .ok (.getfield 211, 3) := by decide +kernel
theorem dX6_bringAhead_7 : decode cX6_bringAhead 7 = .ok (.iload_n 1, 1) := by decide +kernel
theorem dX6_bringAhead_8 : decode cX6_bringAhead 8 = .ok (.iaload, 1) := by decide +kernel
theorem dX6_bringAhead_9 : decode cX6_bringAhead 9 = .ok (.iload_n 2, 1) := by decide +kernel
theorem dX6_bringAhead_10 : decode cX6_bringAhead 10 = .ok (.if_icmp .ne 7, 3) := by decide +kernel
theorem dX6_bringAhead_13 : decode cX6_bringAhead 13 = .ok (.iconst 1, 1) := by decide +kernel
theorem dX6_bringAhead_14 : decode cX6_bringAhead 14 = .ok (.goto 4, 3) := by decide +kernel
theorem dX6_bringAhead_17 : decode cX6_bringAhead 17 = .ok (.iconst 0, 1) := by decide +kernel
theorem dX6_bringAhead_18 : decode cX6_bringAhead 18 = .ok (.istore_n 3, 1) := by decide +kernel
theorem dX6_bringAhead_19 : decode cX6_bringAhead 19 = .ok (.iload_n 3, 1) := by decide +kernel
theorem dX6_bringAhead_20 : decode cX6_bringAhead 20 = .ok (.ifCond .eq 22, 3) := by decide +kernel
theorem dX6_bringAhead_23 : decode cX6_bringAhead 23 = .ok (.bipush 8, 2) := by decide +kernel
theorem dX6_bringAhead_25 : decode cX6_bringAhead 25 = .ok (.iconst 2, 1) := by decide +kernel
theorem dX6_bringAhead_26 : decode cX6_bringAhead 26 = .ok (.aload_n 0, 1) := by decide +kernel
theorem dX6_bringAhead_27 : decode cX6_bringAhead 27 = .ok (.getfield 42, 3) := by decide +kernel
theorem dX6_bringAhead_30 : decode cX6_bringAhead 30 = .ok (.getfield 208, 3) := by decide +kernel
theorem dX6_bringAhead_33 : decode cX6_bringAhead 33 = .ok (.iload_n 1, 1) := by decide +kernel
theorem dX6_bringAhead_34 : decode cX6_bringAhead 34 = .ok (.iaload, 1) := by decide +kernel
theorem dX6_bringAhead_35 : decode cX6_bringAhead 35 = .ok (.imul, 1) := by decide +kernel
theorem dX6_bringAhead_36 : decode cX6_bringAhead 36 = .ok (.invokestatic 76, 3) := by decide +kernel
theorem dX6_bringAhead_39 : decode cX6_bringAhead 39 = .ok (.goto 4, 3) := by decide +kernel
theorem dX6_bringAhead_42 : decode cX6_bringAhead 42 = .ok (.iconst 1, 1) := by decide +kernel
theorem dX6_bringAhead_43 : decode cX6_bringAhead 43 = .ok (.istore 4, 2) := by decide +kernel
theorem dX6_bringAhead_45 : decode cX6_bringAhead 45 = .ok (.aload_n 0, 1) := by decide +kernel
theorem dX6_bringAhead_46 : decode cX6_bringAhead 46 = .ok (.getfield 42, 3) := by decide +kernel
theorem dX6_bringAhead_49 : decode cX6_bringAhead 49 = .ok (.getfield 208, 3) := by decide +kernel
theorem dX6_bringAhead_52 : decode cX6_bringAhead 52 = .ok (.iload_n 1, 1) := by decide +kernel
theorem dX6_bringAhead_53 : decode cX6_bringAhead 53 = .ok (.iload 4, 2) := by decide +kernel
theorem dX6_bringAhead_55 : decode cX6_bringAhead 55 = .ok (.iastore, 1) := by decide +kernel
theorem dX6_bringAhead_56 : decode cX6_bringAhead 56 = .ok (.iload_n 2, 1) := by decide +kernel
theorem dX6_bringAhead_57 : decode cX6_bringAhead 57 = .ok (.iload 4, 2) := by decide +kernel
theorem dX6_bringAhead_59 : decode cX6_bringAhead 59 = .ok (.iadd, 1) := by decide +kernel
theorem dX6_bringAhead_60 : decode cX6_bringAhead 60 = .ok (.aload_n 0, 1) := by decide +kernel
theorem dX6_bringAhead_61 : decode cX6_bringAhead 61 = .ok (.getfield 42, 3) := by decide +kernel
theorem dX6_bringAhead_64 : decode cX6_bringAhead 64 = .ok (.getfield 73, 3) := by decide +kernel
theorem dX6_bringAhead_67 : decode cX6_bringAhead 67 = .ok (.iload_n 1, 1) := by decide +kernel
theorem dX6_bringAhead_68 : decode cX6_bringAhead 68 = .ok (.iaload, 1) := by decide +kernel
theorem dX6_bringAhead_69 : decode cX6_bringAhead 69 = .ok (.invokestatic 102, 3) := by decide +kernel
theorem dX6_bringAhead_72 : decode cX6_bringAhead 72 = .ok (.invokestatic 76, 3) := by decide +kernel
theorem dX6_bringAhead_75 : decode cX6_bringAhead 75 = .ok (.istore 5, 2) := by decide +kernel
theorem dX6_bringAhead_77 : decode cX6_bringAhead 77 = .ok (.iload_n 2, 1) := by decide +kernel
theorem dX6_bringAhead_78 : decode cX6_bringAhead 78 = .ok (.iconst 1, 1) := by decide +kernel
theorem dX6_bringAhead_79 : decode cX6_bringAhead 79 = .ok (.iadd, 1) := by decide +kernel
theorem dX6_bringAhead_80 : decode cX6_bringAhead 80 = .ok (.istore 6, 2) := by decide +kernel
theorem dX6_bringAhead_82 : decode cX6_bringAhead 82 = .ok (.iload_n 2, 1) := by decide +kernel
theorem dX6_bringAhead_83 : decode cX6_bringAhead 83 = .ok (.iconst 1, 1) := by decide +kernel
theorem dX6_bringAhead_84 : decode cX6_bringAhead 84 = .ok (.iadd, 1) := by decide +kernel
theorem dX6_bringAhead_85 : decode cX6_bringAhead 85 = .ok (.istore 7, 2) := by decide +kernel
theorem dX6_bringAhead_87 : decode cX6_bringAhead 87 = .ok (.iload 7, 2) := by decide +kernel
theorem dX6_bringAhead_89 : decode cX6_bringAhead 89 = .ok (.iload 5, 2) := by decide +kernel
theorem dX6_bringAhead_91 : decode cX6_bringAhead 91 = .ok (.if_icmp .ge 49, 3) := by decide +kernel
theorem dX6_bringAhead_94 : decode cX6_bringAhead 94 = .ok (.iload_n 1, 1) := by decide +kernel
theorem dX6_bringAhead_95 : decode cX6_bringAhead 95 = .ok (.iload 7, 2) := by decide +kernel
theorem dX6_bringAhead_97 : decode cX6_bringAhead 97 = .ok (.invokestatic 105, 3) := by decide +kernel
theorem dX6_bringAhead_100 : decode cX6_bringAhead 100 = .ok (.istore 8, 2) := by decide +kernel
theorem dX6_bringAhead_102 : decode cX6_bringAhead 102 = .ok (.aload_n 0, 1) := by decide +kernel
theorem dX6_bringAhead_103 : decode cX6_bringAhead 103 = .ok (.getfield 49, 3) := by decide +kernel
theorem dX6_bringAhead_106 : decode cX6_bringAhead 106 = .ok (.iload 8, 2) := by decide +kernel
theorem dX6_bringAhead_108 : decode cX6_bringAhead 108 = .ok (.invokevirtual 118, 3) := by decide +kernel
theorem dX6_bringAhead_111 : decode cX6_bringAhead 111 = .ok (.iconst (-1), 1) := by decide +kernel
theorem dX6_bringAhead_112 : decode cX6_bringAhead 112 = .ok (.if_icmp .ne 16, 3) := by decide +kernel
theorem dX6_bringAhead_115 : decode cX6_bringAhead 115 = .ok (.aload_n 0, 1) := by decide +kernel
theorem dX6_bringAhead_116 : decode cX6_bringAhead 116 = .ok (.iload 8, 2) := by decide +kernel
theorem dX6_bringAhead_118 : decode cX6_bringAhead 118 = .ok (.invokevirtual 270, 3) := by decide +kernel
theorem dX6_bringAhead_121 : decode cX6_bringAhead 121 = .ok (.iconst (-1), 1) := by decide +kernel
theorem dX6_bringAhead_122 : decode cX6_bringAhead 122 = .ok (.if_icmp .ne 6, 3) := by decide +kernel
theorem dX6_bringAhead_125 : decode cX6_bringAhead 125 = .ok (.goto 15, 3) := by decide +kernel
theorem dX6_bringAhead_128 : decode cX6_bringAhead 128 = .ok (.iload 7, 2) := by decide +kernel
theorem dX6_bringAhead_130 : decode cX6_bringAhead 130 = .ok (.iconst 1, 1) := by decide +kernel
theorem dX6_bringAhead_131 : decode cX6_bringAhead 131 = .ok (.iadd, 1) := by decide +kernel
theorem dX6_bringAhead_132 : decode cX6_bringAhead 132 = .ok (.istore 6, 2) := by decide +kernel
theorem dX6_bringAhead_134 : decode cX6_bringAhead 134 = .ok (.iinc 7 1, 3) := by decide +kernel
theorem dX6_bringAhead_137 : decode cX6_bringAhead 137 = .ok (.goto (-50), 3) := by decide +kernel
theorem dX6_bringAhead_140 : decode cX6_bringAhead 140 = .ok (.aload_n 0, 1) := by decide +kernel
theorem dX6_bringAhead_141 : decode cX6_bringAhead 141 = .ok (.getfield 42, 3) := by decide +kernel
theorem dX6_bringAhead_144 : decode cX6_bringAhead 144 = .ok (.getfield 211, 3) := by decide +kernel
theorem dX6_bringAhead_147 : decode cX6_bringAhead 147 = .ok (.iload_n 1, 1) := by decide +kernel
theorem dX6_bringAhead_148 : decode cX6_bringAhead 148 = .ok (.iload 6, 2) := by decide +kernel
theorem dX6_bringAhead_150 : decode cX6_bringAhead 150 = .ok (.iastore, 1) := by decide +kernel
theorem dX6_bringAhead_151 : decode cX6_bringAhead 151 = .ok (.return_, 1) := by decide +kernel
theorem dX6_putRow_0 : decode cX6_putRow 0 = .ok (.aload_n 0, 1) := by decide +kernel
theorem dX6_putRow_1 : decode cX6_putRow 1 = .ok (.getfield 35, 3) := by decide +kernel
theorem dX6_putRow_4 : decode cX6_putRow 4 = .ok (.invokevirtual 70, 3) := by decide +kernel
theorem dX6_putRow_7 : decode cX6_putRow 7 = .ok (.iload_n 2, 1) := by decide +kernel
theorem dX6_putRow_8 : decode cX6_putRow 8 = .ok (.iload_n 3, 1) := by decide +kernel
theorem dX6_putRow_9 : decode cX6_putRow 9 = .ok (.iadd, 1) := by decide +kernel
theorem dX6_putRow_10 : decode cX6_putRow 10 = .ok (.istore 4, 2) := by decide +kernel
theorem dX6_putRow_12 : decode cX6_putRow 12 = .ok (.iconst 0, 1) := by decide +kernel
theorem dX6_putRow_13 : decode cX6_putRow 13 = .ok (.istore 5, 2) := by decide +kernel
theorem dX6_putRow_15 : decode cX6_putRow 15 = .ok (.iload_n 2, 1) := by decide +kernel
theorem dX6_putRow_16 : decode cX6_putRow 16 = .ok (.bipush 64, 2) := by decide +kernel
theorem dX6_putRow_18 : decode cX6_putRow 18 = .ok (.idiv, 1) := by decide +kernel
theorem dX6_putRow_19 : decode cX6_putRow 19 = .ok (.istore 6, 2) := by decide +kernel
theorem dX6_putRow_21 : decode cX6_putRow 21 = .ok (.iload 6, 2) := by decide +kernel
theorem dX6_putRow_23 : decode cX6_putRow 23 = .ok (.bipush 64, 2) := by decide +kernel
theorem dX6_putRow_25 : decode cX6_putRow 25 = .ok (.imul, 1) := by decide +kernel
theorem dX6_putRow_26 : decode cX6_putRow 26 = .ok (.iload 4, 2) := by decide +kernel
theorem dX6_putRow_28 : decode cX6_putRow 28 = .ok (.if_icmp .ge 144, 3) := by decide +kernel
theorem dX6_putRow_31 : decode cX6_putRow 31 = .ok (.aload_n 0, 1) := by decide +kernel
theorem dX6_putRow_32 : decode cX6_putRow 32 = .ok (.iload_n 1, 1) := by decide +kernel
theorem dX6_putRow_33 : decode cX6_putRow 33 = .ok (.iload 6, 2) := by decide +kernel
theorem dX6_putRow_35 : decode cX6_putRow 35 = .ok (.invokestatic 105, 3) := by decide +kernel
theorem dX6_putRow_38 : decode cX6_putRow 38 = .ok (.invokevirtual 178, 3) := by decide +kernel
theorem dX6_putRow_41 : decode cX6_putRow 41 = .ok (.istore 7, 2) := by decide +kernel
theorem dX6_putRow_43 : decode cX6_putRow 43 = .ok (.iload 7, 2) := by decide +kernel
theorem dX6_putRow_45 : decode cX6_putRow 45 = .ok (.iconst (-1), 1) := by decide +kernel
theorem dX6_putRow_46 : decode cX6_putRow 46 = .ok (.if_icmp .ne 6, 3) := by decide +kernel
theorem dX6_putRow_49 : decode cX6_putRow 49 = .ok (.goto 123, 3) := by decide +kernel
theorem dX6_putRow_52 : decode cX6_putRow 52 = .ok (.iload 6, 2) := by decide +kernel
theorem dX6_putRow_54 : decode cX6_putRow 54 = .ok (.bipush 64, 2) := by decide +kernel
theorem dX6_putRow_56 : decode cX6_putRow 56 = .ok (.imul, 1) := by decide +kernel
theorem dX6_putRow_57 : decode cX6_putRow 57 = .ok (.istore 8, 2) := by decide +kernel
theorem dX6_putRow_59 : decode cX6_putRow 59 = .ok (.iload 4, 2) := by decide +kernel
theorem dX6_putRow_61 : decode cX6_putRow 61 = .ok (.iload 8, 2) := by decide +kernel
theorem dX6_putRow_63 : decode cX6_putRow 63 = .ok (.bipush 64, 2) := by decide +kernel
theorem dX6_putRow_65 : decode cX6_putRow 65 = .ok (.iadd, 1) := by decide +kernel
theorem dX6_putRow_66 : decode cX6_putRow 66 = .ok (.invokestatic 76, 3) := by decide +kernel
theorem dX6_putRow_69 : decode cX6_putRow 69 = .ok (.istore 9, 2) := by decide +kernel
theorem dX6_putRow_71 : decode cX6_putRow 71 = .ok (.iload_n 2, 1) := by decide +kernel
theorem dX6_putRow_72 : decode cX6_putRow 72 = .ok (.iload 8, 2) := by decide +kernel
theorem dX6_putRow_74 : decode cX6_putRow 74 = .ok (.invokestatic 263, 3) := by decide +kernel
theorem dX6_putRow_77 : decode cX6_putRow 77 = .ok (.istore 10, 2) := by decide +kernel
theorem dX6_putRow_79 : decode cX6_putRow 79 = .ok (.iload 10, 2) := by decide +kernel
theorem dX6_putRow_81 : decode cX6_putRow 81 = .ok (.iload 9, 2) := by decide +kernel
theorem dX6_putRow_83 : decode cX6_putRow 83 = .ok (.if_icmp .ge 41, 3) := by decide +kernel
theorem dX6_putRow_86 : decode cX6_putRow 86 = .ok (.aload_n 0, 1) := by decide +kernel
theorem dX6_putRow_87 : decode cX6_putRow 87 = .ok (.getfield 49, 3) := by decide +kernel
theorem dX6_putRow_90 : decode cX6_putRow 90 = .ok (.getfield 266, 3) := by decide +kernel
theorem dX6_putRow_93 : decode cX6_putRow 93 = .ok (.iload 7, 2) := by decide +kernel
theorem dX6_putRow_95 : decode cX6_putRow 95 = .ok (.bipush 64, 2) := by decide +kernel
theorem dX6_putRow_97 : decode cX6_putRow 97 = .ok (.imul, 1) := by decide +kernel
theorem dX6_putRow_98 : decode cX6_putRow 98 = .ok (.iload 10, 2) := by decide +kernel
theorem dX6_putRow_100 : decode cX6_putRow 100 = .ok (.iadd, 1) := by decide +kernel
theorem dX6_putRow_101 : decode cX6_putRow 101 = .ok (.iload 8, 2) := by decide +kernel
theorem dX6_putRow_103 : decode cX6_putRow 103 = .ok (.isub, 1) := by decide +kernel
theorem dX6_putRow_104 : decode cX6_putRow 104 = .ok (.aload_n 0, 1) := by decide +kernel
theorem dX6_putRow_105 : decode cX6_putRow 105 = .ok (.getfield 22, 3) := by decide +kernel
theorem dX6_putRow_108 : decode cX6_putRow 108 = .ok (.iload 10, 2) := by decide +kernel
theorem dX6_putRow_110 : decode cX6_putRow 110 = .ok (.iload_n 2, 1) := by decide +kernel
theorem dX6_putRow_111 : decode cX6_putRow 111 = .ok (.isub, 1) := by decide +kernel
theorem dX6_putRow_112 : decode cX6_putRow 112 = .ok (.invokevirtual 86, 3) := by decide +kernel
theorem dX6_putRow_115 : decode cX6_putRow 115 = .ok (.invokevirtual 94, 3) := by decide +kernel
theorem dX6_putRow_118 : decode cX6_putRow 118 = .ok (.iinc 10 1, 3) := by decide +kernel
theorem dX6_putRow_121 : decode cX6_putRow 121 = .ok (.goto (-42), 3) := by decide +kernel
theorem dX6_putRow_124 : decode cX6_putRow 124 = .ok (.aload_n 0, 1) := by decide +kernel
theorem dX6_putRow_125 : decode cX6_putRow 125 = .ok (.getfield 49, 3) := by decide +kernel
theorem dX6_putRow_128 : decode cX6_putRow 128 = .ok (.iload 7, 2) := by decide +kernel
theorem dX6_putRow_130 : decode cX6_putRow 130 = .ok (.aload_n 0, 1) := by decide +kernel
theorem dX6_putRow_131 : decode cX6_putRow 131 = .ok (.getfield 29, 3) := by decide +kernel
theorem dX6_putRow_134 : decode cX6_putRow 134 = .ok (.invokevirtual 273, 3) := by decide +kernel
theorem dX6_putRow_137 : decode cX6_putRow 137 = .ok (.aload_n 0, 1) := by decide +kernel
theorem dX6_putRow_138 : decode cX6_putRow 138 = .ok (.getfield 42, 3) := by decide +kernel
theorem dX6_putRow_141 : decode cX6_putRow 141 = .ok (.getfield 73, 3) := by decide +kernel
theorem dX6_putRow_144 : decode cX6_putRow 144 = .ok (.iload_n 1, 1) := by decide +kernel
theorem dX6_putRow_145 : decode cX6_putRow 145 = .ok (.aload_n 0, 1) := by decide +kernel
theorem dX6_putRow_146 : decode cX6_putRow 146 = .ok (.getfield 42, 3) := by decide +kernel
theorem dX6_putRow_149 : decode cX6_putRow 149 = .ok (.getfield 73, 3) := by decide +kernel
theorem dX6_putRow_152 : decode cX6_putRow 152 = .ok (.iload_n 1, 1) := by decide +kernel
theorem dX6_putRow_153 : decode cX6_putRow 153 = .ok (.iaload, 1) := by decide +kernel
theorem dX6_putRow_154 : decode cX6_putRow 154 = .ok (.iload 9, 2) := by decide +kernel
theorem dX6_putRow_156 : decode cX6_putRow 156 = .ok (.invokestatic 263, 3) := by decide +kernel
theorem dX6_putRow_159 : decode cX6_putRow 159 = .ok (.iastore, 1) := by decide +kernel
theorem dX6_putRow_160 : decode cX6_putRow 160 = .ok (.iload 9, 2) := by decide +kernel
theorem dX6_putRow_162 : decode cX6_putRow 162 = .ok (.iload_n 2, 1) := by decide +kernel
theorem dX6_putRow_163 : decode cX6_putRow 163 = .ok (.isub, 1) := by decide +kernel
theorem dX6_putRow_164 : decode cX6_putRow 164 = .ok (.istore 5, 2) := by decide +kernel
theorem dX6_putRow_166 : decode cX6_putRow 166 = .ok (.iinc 6 1, 3) := by decide +kernel
theorem dX6_putRow_169 : decode cX6_putRow 169 = .ok (.goto (-148), 3) := by decide +kernel
theorem dX6_putRow_172 : decode cX6_putRow 172 = .ok (.iload 5, 2) := by decide +kernel
theorem dX6_putRow_174 : decode cX6_putRow 174 = .ok (.ifCond .ne 6, 3) := by decide +kernel
theorem dX6_putRow_177 : decode cX6_putRow 177 = .ok (.bipush (-3), 2) := by decide +kernel
theorem dX6_putRow_179 : decode cX6_putRow 179 = .ok (.ireturn, 1) := by decide +kernel
theorem dX6_putRow_180 : decode cX6_putRow 180 = .ok (.aload_n 0, 1) := by decide +kernel
theorem dX6_putRow_181 : decode cX6_putRow 181 = .ok (.invokevirtual 276, 3) := by decide +kernel
theorem dX6_putRow_184 : decode cX6_putRow 184 = .ok (.iload 5, 2) := by decide +kernel
theorem dX6_putRow_186 : decode cX6_putRow 186 = .ok (.ireturn, 1) := by decide +kernel
theorem dX6_cutLastPage_0 : decode cX6_cutLastPage 0 = .ok (.iload_n 2, 1) := by decide +kernel
theorem dX6_cutLastPage_1 : decode cX6_cutLastPage 1 = .ok (.bipush 64, 2) := by decide +kernel
theorem dX6_cutLastPage_3 : decode cX6_cutLastPage 3 = .ok (.irem, 1) := by decide +kernel
theorem dX6_cutLastPage_4 : decode cX6_cutLastPage 4 = .ok (.istore_n 3, 1) := by decide +kernel
theorem dX6_cutLastPage_5 : decode cX6_cutLastPage 5 = .ok (.iload_n 1, 1) := by decide +kernel
theorem dX6_cutLastPage_6 : decode cX6_cutLastPage 6 = .ok (.iload_n 2, 1) := by decide +kernel
theorem dX6_cutLastPage_7 : decode cX6_cutLastPage 7 = .ok (.bipush 64, 2) := by decide +kernel
theorem dX6_cutLastPage_9 : decode cX6_cutLastPage 9 = .ok (.idiv, 1) := by decide +kernel
theorem dX6_cutLastPage_10 : decode cX6_cutLastPage 10 = .ok (.invokestatic 105, 3) := by decide +kernel
theorem dX6_cutLastPage_13 : decode cX6_cutLastPage 13 = .ok (.istore 4, 2) := by decide +kernel
theorem dX6_cutLastPage_15 : decode cX6_cutLastPage 15 = .ok (.iload_n 3, 1) := by decide +kernel
theorem dX6_cutLastPage_16 : decode cX6_cutLastPage 16 = .ok (.ifCond .eq 27, 3) := by decide +kernel
theorem dX6_cutLastPage_19 : decode cX6_cutLastPage 19 = .ok (.aload_n 0, 1) := by decide +kernel
theorem dX6_cutLastPage_20 : decode cX6_cutLastPage 20 = .ok (.getfield 49, 3) := by decide +kernel
theorem dX6_cutLastPage_23 : decode cX6_cutLastPage 23 = .ok (.iload 4, 2) := by decide +kernel
theorem dX6_cutLastPage_25 : decode cX6_cutLastPage 25 = .ok (.invokevirtual 118, 3) := by decide +kernel
theorem dX6_cutLastPage_28 : decode cX6_cutLastPage 28 = .ok (.iconst (-1), 1) := by decide +kernel
theorem dX6_cutLastPage_29 : decode cX6_cutLastPage 29 = .ok (.if_icmp .ne 16, 3) := by decide +kernel
theorem dX6_cutLastPage_32 : decode cX6_cutLastPage 32 = .ok (.aload_n 0, 1) := by decide +kernel
theorem dX6_cutLastPage_33 : decode cX6_cutLastPage 33 = .ok (.getfield 9, 3) := by decide +kernel
theorem dX6_cutLastPage_36 : decode cX6_cutLastPage 36 = .ok (.iload 4, 2) := by decide +kernel
theorem dX6_cutLastPage_38 : decode cX6_cutLastPage 38 = .ok (.iaload, 1) := by decide +kernel
theorem dX6_cutLastPage_39 : decode cX6_cutLastPage 39 = .ok (.iconst (-1), 1) := by decide +kernel
theorem dX6_cutLastPage_40 : decode cX6_cutLastPage 40 = .ok (.if_icmp .ne 5, 3) := by decide +kernel
theorem dX6_cutLastPage_43 : decode cX6_cutLastPage 43 = .ok (.iconst 1, 1) := by decide +kernel
theorem dX6_cutLastPage_44 : decode cX6_cutLastPage 44 = .ok (.ireturn, 1) := by decide +kernel
theorem dX6_cutLastPage_45 : decode cX6_cutLastPage 45 = .ok (.aload_n 0, 1) := by decide +kernel
theorem dX6_cutLastPage_46 : decode cX6_cutLastPage 46 = .ok (.iload 4, 2) := by decide +kernel
theorem dX6_cutLastPage_48 : decode cX6_cutLastPage 48 = .ok (.invokevirtual 178, 3) := by decide +kernel
theorem dX6_cutLastPage_51 : decode cX6_cutLastPage 51 = .ok (.istore 5, 2) := by decide +kernel
theorem dX6_cutLastPage_53 : decode cX6_cutLastPage 53 = .ok (.iload 5, 2) := by decide +kernel
theorem dX6_cutLastPage_55 : decode cX6_cutLastPage 55 = .ok (.iconst (-1), 1) := by decide +kernel
theorem dX6_cutLastPage_56 : decode cX6_cutLastPage 56 = .ok (.if_icmp .ne 5, 3) := by decide +kernel
theorem dX6_cutLastPage_59 : decode cX6_cutLastPage 59 = .ok (.iconst 0, 1) := by decide +kernel
theorem dX6_cutLastPage_60 : decode cX6_cutLastPage 60 = .ok (.ireturn, 1) := by decide +kernel
theorem dX6_cutLastPage_61 : decode cX6_cutLastPage 61 = .ok (.aload_n 0, 1) := by decide +kernel
theorem dX6_cutLastPage_62 : decode cX6_cutLastPage 62 = .ok (.getfield 49, 3) := by decide +kernel
theorem dX6_cutLastPage_65 : decode cX6_cutLastPage 65 = .ok (.getfield 266, 3) := by decide +kernel
theorem dX6_cutLastPage_68 : decode cX6_cutLastPage 68 = .ok (.iload 5, 2) := by decide +kernel
theorem dX6_cutLastPage_70 : decode cX6_cutLastPage 70 = .ok (.bipush 64, 2) := by decide +kernel
theorem dX6_cutLastPage_72 : decode cX6_cutLastPage 72 = .ok (.imul, 1) := by decide +kernel
theorem dX6_cutLastPage_73 : decode cX6_cutLastPage 73 = .ok (.iload_n 3, 1) := by decide +kernel
theorem dX6_cutLastPage_74 : decode cX6_cutLastPage 74 = .ok (.iadd, 1) := by decide +kernel
theorem dX6_cutLastPage_75 : decode cX6_cutLastPage 75 = .ok (.iload 5, 2) := by decide +kernel
theorem dX6_cutLastPage_77 : decode cX6_cutLastPage 77 = .ok (.iconst 1, 1) := by decide +kernel
theorem dX6_cutLastPage_78 : decode cX6_cutLastPage 78 = .ok (.iadd, 1) := by decide +kernel
theorem dX6_cutLastPage_79 : decode cX6_cutLastPage 79 = .ok (.bipush 64, 2) := by decide +kernel
theorem dX6_cutLastPage_81 : decode cX6_cutLastPage 81 = .ok (.imul, 1) := by decide +kernel
theorem dX6_cutLastPage_82 : decode cX6_cutLastPage 82 = .ok (.invokevirtual 279, 3) := by decide +kernel
theorem dX6_cutLastPage_85 : decode cX6_cutLastPage 85 = .ok (.aload_n 0, 1) := by decide +kernel
theorem dX6_cutLastPage_86 : decode cX6_cutLastPage 86 = .ok (.getfield 49, 3) := by decide +kernel
theorem dX6_cutLastPage_89 : decode cX6_cutLastPage 89 = .ok (.iload 5, 2) := by decide +kernel
theorem dX6_cutLastPage_91 : decode cX6_cutLastPage 91 = .ok (.aload_n 0, 1) := by decide +kernel
theorem dX6_cutLastPage_92 : decode cX6_cutLastPage 92 = .ok (.getfield 29, 3) := by decide +kernel
theorem dX6_cutLastPage_95 : decode cX6_cutLastPage 95 = .ok (.invokevirtual 273, 3) := by decide +kernel
theorem dX6_cutLastPage_98 : decode cX6_cutLastPage 98 = .ok (.iconst 1, 1) := by decide +kernel
theorem dX6_cutLastPage_99 : decode cX6_cutLastPage 99 = .ok (.ireturn, 1) := by decide +kernel
theorem dX6_makeHole_0 : decode cX6_makeHole 0 = .ok (.aload_n 0, 1) := by decide +kernel
theorem dX6_makeHole_1 : decode cX6_makeHole 1 = .ok (.getfield 49, 3) := by decide +kernel
theorem dX6_makeHole_4 : decode cX6_makeHole 4 = .ok (.iload_n 1, 1) := by decide +kernel
theorem dX6_makeHole_5 : decode cX6_makeHole 5 = .ok (.invokevirtual 118, 3) := by decide +kernel
theorem dX6_makeHole_8 : decode cX6_makeHole 8 = .ok (.istore_n 2, 1) := by decide +kernel
theorem dX6_makeHole_9 : decode cX6_makeHole 9 = .ok (.aload_n 0, 1) := by decide +kernel
theorem dX6_makeHole_10 : decode cX6_makeHole 10 = .ok (.getfield 9, 3) := by decide +kernel
theorem dX6_makeHole_13 : decode cX6_makeHole 13 = .ok (.iload_n 1, 1) := by decide +kernel
theorem dX6_makeHole_14 : decode cX6_makeHole 14 = .ok (.iaload, 1) := by decide +kernel
theorem dX6_makeHole_15 : decode cX6_makeHole 15 = .ok (.istore_n 3, 1) := by decide +kernel
theorem dX6_makeHole_16 : decode cX6_makeHole 16 = .ok (.aload_n 0, 1) := by decide +kernel
theorem dX6_makeHole_17 : decode cX6_makeHole 17 = .ok (.getfield 49, 3) := by decide +kernel
theorem dX6_makeHole_20 : decode cX6_makeHole 20 = .ok (.iload_n 2, 1) := by decide +kernel
theorem dX6_makeHole_21 : decode cX6_makeHole 21 = .ok (.invokevirtual 156, 3) := by decide +kernel
theorem dX6_makeHole_24 : decode cX6_makeHole 24 = .ok (.aload_n 0, 1) := by decide +kernel
theorem dX6_makeHole_25 : decode cX6_makeHole 25 = .ok (.getfield 56, 3) := by decide +kernel
theorem dX6_makeHole_28 : decode cX6_makeHole 28 = .ok (.iload_n 1, 1) := by decide +kernel
theorem dX6_makeHole_29 : decode cX6_makeHole 29 = .ok (.invokevirtual 282, 3) := by decide +kernel
theorem dX6_makeHole_32 : decode cX6_makeHole 32 = .ok (.aload_n 0, 1) := by decide +kernel
theorem dX6_makeHole_33 : decode cX6_makeHole 33 = .ok (.getfield 35, 3) := by decide +kernel
theorem dX6_makeHole_36 : decode cX6_makeHole 36 = .ok (.iload_n 3, 1) := by decide +kernel
theorem dX6_makeHole_37 : decode cX6_makeHole 37 = .ok (.invokevirtual 285, 3) := by decide +kernel
theorem dX6_makeHole_40 : decode cX6_makeHole 40 = .ok (.aload_n 0, 1) := by decide +kernel
theorem dX6_makeHole_41 : decode cX6_makeHole 41 = .ok (.getfield 9, 3) := by decide +kernel
theorem dX6_makeHole_44 : decode cX6_makeHole 44 = .ok (.iload_n 1, 1) := by decide +kernel
theorem dX6_makeHole_45 : decode cX6_makeHole 45 = .ok (.iconst (-1), 1) := by decide +kernel
theorem dX6_makeHole_46 : decode cX6_makeHole 46 = .ok (.iastore, 1) := by decide +kernel
theorem dX6_makeHole_47 : decode cX6_makeHole 47 = .ok (.iload_n 2, 1) := by decide +kernel
theorem dX6_makeHole_48 : decode cX6_makeHole 48 = .ok (.iconst (-1), 1) := by decide +kernel
theorem dX6_makeHole_49 : decode cX6_makeHole 49 = .ok (.if_icmp .ne 8, 3) := by decide +kernel
theorem dX6_makeHole_52 : decode cX6_makeHole 52 = .ok (.iload_n 3, 1) := by decide +kernel
theorem dX6_makeHole_53 : decode cX6_makeHole 53 = .ok (.iconst (-1), 1) := by decide +kernel
theorem dX6_makeHole_54 : decode cX6_makeHole 54 = .ok (.if_icmp .eq 7, 3) := by decide +kernel
theorem dX6_makeHole_57 : decode cX6_makeHole 57 = .ok (.iconst 1, 1) := by decide +kernel
theorem dX6_makeHole_58 : decode cX6_makeHole 58 = .ok (.goto 4, 3) := by decide +kernel
theorem dX6_makeHole_61 : decode cX6_makeHole 61 = .ok (.iconst 0, 1) := by decide +kernel
theorem dX6_makeHole_62 : decode cX6_makeHole 62 = .ok (.ireturn, 1) := by decide +kernel
theorem dX6_touch_0 : decode cX6_touch 0 = .ok (.aload_n 0, 1) := by decide +kernel
theorem dX6_touch_1 : decode cX6_touch 1 = .ok (.getfield 49, 3) := by decide +kernel
theorem dX6_touch_4 : decode cX6_touch 4 = .ok (.iload_n 1, 1) := by decide +kernel
theorem dX6_touch_5 : decode cX6_touch 5 = .ok (.invokevirtual 118, 3) := by decide +kernel
theorem dX6_touch_8 : decode cX6_touch 8 = .ok (.istore_n 2, 1) := by decide +kernel
theorem dX6_touch_9 : decode cX6_touch 9 = .ok (.iload_n 2, 1) := by decide +kernel
theorem dX6_touch_10 : decode cX6_touch 10 = .ok (.iconst (-1), 1) := by decide +kernel
theorem dX6_touch_11 : decode cX6_touch 11 = .ok (.if_icmp .ne 9, 3) := by decide +kernel
theorem dX6_touch_14 : decode cX6_touch 14 = .ok (.aload_n 0, 1) := by decide +kernel
theorem dX6_touch_15 : decode cX6_touch 15 = .ok (.iload_n 1, 1) := by decide +kernel
theorem dX6_touch_16 : decode cX6_touch 16 = .ok (.invokevirtual 270, 3) := by decide +kernel
theorem dX6_touch_19 : decode cX6_touch 19 = .ok (.ireturn, 1) := by decide +kernel
theorem dX6_touch_20 : decode cX6_touch 20 = .ok (.aload_n 0, 1) := by decide +kernel
theorem dX6_touch_21 : decode cX6_touch 21 = .ok (.getfield 49, 3) := by decide +kernel
theorem dX6_touch_24 : decode cX6_touch 24 = .ok (.iload_n 2, 1) := by decide +kernel
theorem dX6_touch_25 : decode cX6_touch 25 = .ok (.invokevirtual 288, 3) := by decide +kernel
theorem dX6_touch_28 : decode cX6_touch 28 = .ok (.iload_n 2, 1) := by decide +kernel
theorem dX6_touch_29 : decode cX6_touch 29 = .ok (.ireturn, 1) := by decide +kernel
theorem dX6_bringIn_0 : decode cX6_bringIn 0 = .ok (.aload_n 0, 1) := by decide +kernel
theorem dX6_bringIn_1 : decode cX6_bringIn 1 = .ok (.getfield 49, 3) := by decide +kernel
theorem dX6_bringIn_4 : decode cX6_bringIn 4 = .ok (.invokevirtual 291, 3) := by decide +kernel
theorem dX6_bringIn_7 : decode cX6_bringIn 7 = .ok (.istore_n 2, 1) := by decide +kernel
theorem dX6_bringIn_8 : decode cX6_bringIn 8 = .ok (.iload_n 2, 1) := by decide +kernel
theorem dX6_bringIn_9 : decode cX6_bringIn 9 = .ok (.iconst (-1), 1) := by decide +kernel
theorem dX6_bringIn_10 : decode cX6_bringIn 10 = .ok (.if_icmp .ne 41, 3) := by decide +kernel
theorem dX6_bringIn_13 : decode cX6_bringIn 13 = .ok (.aload_n 0, 1) := by decide +kernel
theorem dX6_bringIn_14 : decode cX6_bringIn 14 = .ok (.getfield 49, 3) := by decide +kernel
theorem dX6_bringIn_17 : decode cX6_bringIn 17 = .ok (.invokevirtual 294, 3) := by decide +kernel
theorem dX6_bringIn_20 : decode cX6_bringIn 20 = .ok (.aload_n 0, 1) := by decide +kernel
theorem dX6_bringIn_21 : decode cX6_bringIn 21 = .ok (.invokevirtual 297, 3) := by decide +kernel
theorem dX6_bringIn_24 : decode cX6_bringIn 24 = .ok (.istore_n 2, 1) := by decide +kernel
theorem dX6_bringIn_25 : decode cX6_bringIn 25 = .ok (.iload_n 2, 1) := by decide +kernel
theorem dX6_bringIn_26 : decode cX6_bringIn 26 = .ok (.iconst (-1), 1) := by decide +kernel
theorem dX6_bringIn_27 : decode cX6_bringIn 27 = .ok (.if_icmp .ne 10, 3) := by decide +kernel
theorem dX6_bringIn_30 : decode cX6_bringIn 30 = .ok (.aload_n 0, 1) := by decide +kernel
theorem dX6_bringIn_31 : decode cX6_bringIn 31 = .ok (.invokevirtual 300, 3) := by decide +kernel
theorem dX6_bringIn_34 : decode cX6_bringIn 34 = .ok (.goto 4, 3) := by decide +kernel
theorem dX6_bringIn_37 : decode cX6_bringIn 37 = .ok (.iload_n 2, 1) := by decide +kernel
theorem dX6_bringIn_38 : decode cX6_bringIn 38 = .ok (.istore_n 2, 1) := by decide +kernel
theorem dX6_bringIn_39 : decode cX6_bringIn 39 = .ok (.iload_n 2, 1) := by decide +kernel
theorem dX6_bringIn_40 : decode cX6_bringIn 40 = .ok (.iconst (-1), 1) := by decide +kernel
theorem dX6_bringIn_41 : decode cX6_bringIn 41 = .ok (.if_icmp .ne 5, 3) := by decide +kernel
theorem dX6_bringIn_44 : decode cX6_bringIn 44 = .ok (.iconst (-1), 1) := by decide +kernel
theorem dX6_bringIn_45 : decode cX6_bringIn 45 = .ok (.ireturn, 1) := by decide +kernel
theorem dX6_bringIn_46 : decode cX6_bringIn 46 = .ok (.aload_n 0, 1) := by decide +kernel
theorem dX6_bringIn_47 : decode cX6_bringIn 47 = .ok (.iload_n 2, 1) := by decide +kernel
theorem dX6_bringIn_48 : decode cX6_bringIn 48 = .ok (.invokevirtual 150, 3) := by decide +kernel
theorem dX6_bringIn_51 : decode cX6_bringIn 51 = .ok (.aload_n 0, 1) := by decide +kernel
theorem dX6_bringIn_52 : decode cX6_bringIn 52 = .ok (.getfield 9, 3) := by decide +kernel
theorem dX6_bringIn_55 : decode cX6_bringIn 55 = .ok (.iload_n 1, 1) := by decide +kernel
theorem dX6_bringIn_56 : decode cX6_bringIn 56 = .ok (.iaload, 1) := by decide +kernel
theorem dX6_bringIn_57 : decode cX6_bringIn 57 = .ok (.iconst (-1), 1) := by decide +kernel
theorem dX6_bringIn_58 : decode cX6_bringIn 58 = .ok (.if_icmp .ne 26, 3) := by decide +kernel
theorem dX6_bringIn_61 : decode cX6_bringIn 61 = .ok (.aload_n 0, 1) := by decide +kernel
theorem dX6_bringIn_62 : decode cX6_bringIn 62 = .ok (.getfield 49, 3) := by decide +kernel
theorem dX6_bringIn_65 : decode cX6_bringIn 65 = .ok (.getfield 266, 3) := by decide +kernel
theorem dX6_bringIn_68 : decode cX6_bringIn 68 = .ok (.iload_n 2, 1) := by decide +kernel
theorem dX6_bringIn_69 : decode cX6_bringIn 69 = .ok (.bipush 64, 2) := by decide +kernel
theorem dX6_bringIn_71 : decode cX6_bringIn 71 = .ok (.imul, 1) := by decide +kernel
theorem dX6_bringIn_72 : decode cX6_bringIn 72 = .ok (.iload_n 2, 1) := by decide +kernel
theorem dX6_bringIn_73 : decode cX6_bringIn 73 = .ok (.iconst 1, 1) := by decide +kernel
theorem dX6_bringIn_74 : decode cX6_bringIn 74 = .ok (.iadd, 1) := by decide +kernel
theorem dX6_bringIn_75 : decode cX6_bringIn 75 = .ok (.bipush 64, 2) := by decide +kernel
theorem dX6_bringIn_77 : decode cX6_bringIn 77 = .ok (.imul, 1) := by decide +kernel
theorem dX6_bringIn_78 : decode cX6_bringIn 78 = .ok (.invokevirtual 279, 3) := by decide +kernel
theorem dX6_bringIn_81 : decode cX6_bringIn 81 = .ok (.goto 24, 3) := by decide +kernel
theorem dX6_bringIn_84 : decode cX6_bringIn 84 = .ok (.aload_n 0, 1) := by decide +kernel
theorem dX6_bringIn_85 : decode cX6_bringIn 85 = .ok (.getfield 35, 3) := by decide +kernel
theorem dX6_bringIn_88 : decode cX6_bringIn 88 = .ok (.aload_n 0, 1) := by decide +kernel
theorem dX6_bringIn_89 : decode cX6_bringIn 89 = .ok (.getfield 9, 3) := by decide +kernel
theorem dX6_bringIn_92 : decode cX6_bringIn 92 = .ok (.iload_n 1, 1) := by decide +kernel
theorem dX6_bringIn_93 : decode cX6_bringIn 93 = .ok (.iaload, 1) := by decide +kernel
theorem dX6_bringIn_94 : decode cX6_bringIn 94 = .ok (.aload_n 0, 1) := by decide +kernel
theorem dX6_bringIn_95 : decode cX6_bringIn 95 = .ok (.getfield 49, 3) := by decide +kernel
theorem dX6_bringIn_98 : decode cX6_bringIn 98 = .ok (.getfield 266, 3) := by decide +kernel
theorem dX6_bringIn_101 : decode cX6_bringIn 101 = .ok (.iload_n 2, 1) := by decide +kernel
theorem dX6_bringIn_102 : decode cX6_bringIn 102 = .ok (.invokevirtual 303, 3) := by decide +kernel
theorem dX6_bringIn_105 : decode cX6_bringIn 105 = .ok (.aload_n 0, 1) := by decide +kernel
theorem dX6_bringIn_106 : decode cX6_bringIn 106 = .ok (.getfield 56, 3) := by decide +kernel
theorem dX6_bringIn_109 : decode cX6_bringIn 109 = .ok (.iload_n 1, 1) := by decide +kernel
theorem dX6_bringIn_110 : decode cX6_bringIn 110 = .ok (.aload_n 0, 1) := by decide +kernel
theorem dX6_bringIn_111 : decode cX6_bringIn 111 = .ok (.getfield 49, 3) := by decide +kernel
theorem dX6_bringIn_114 : decode cX6_bringIn 114 = .ok (.getfield 214, 3) := by decide +kernel
theorem dX6_bringIn_117 : decode cX6_bringIn 117 = .ok (.getfield 244, 3) := by decide +kernel
theorem dX6_bringIn_120 : decode cX6_bringIn 120 = .ok (.invokevirtual 307, 3) := by decide +kernel
theorem dX6_bringIn_123 : decode cX6_bringIn 123 = .ok (.istore_n 3, 1) := by decide +kernel
theorem dX6_bringIn_124 : decode cX6_bringIn 124 = .ok (.aload_n 0, 1) := by decide +kernel
theorem dX6_bringIn_125 : decode cX6_bringIn 125 = .ok (.getfield 56, 3) := by decide +kernel
theorem dX6_bringIn_128 : decode cX6_bringIn 128 = .ok (.iload_n 1, 1) := by decide +kernel
theorem dX6_bringIn_129 : decode cX6_bringIn 129 = .ok (.invokevirtual 282, 3) := by decide +kernel
theorem dX6_bringIn_132 : decode cX6_bringIn 132 = .ok (.aload_n 0, 1) := by decide +kernel
theorem dX6_bringIn_133 : decode cX6_bringIn 133 = .ok (.getfield 49, 3) := by decide +kernel
theorem dX6_bringIn_136 : decode cX6_bringIn 136 = .ok (.iload_n 2, 1) := by decide +kernel
theorem dX6_bringIn_137 : decode cX6_bringIn 137 = .ok (.iload_n 1, 1) := by decide +kernel
theorem dX6_bringIn_138 : decode cX6_bringIn 138 = .ok (.iload_n 3, 1) := by decide +kernel
theorem dX6_bringIn_139 : decode cX6_bringIn 139 = .ok (.invokevirtual 310, 3) := by decide +kernel
theorem dX6_bringIn_142 : decode cX6_bringIn 142 = .ok (.iload_n 2, 1) := by decide +kernel
theorem dX6_bringIn_143 : decode cX6_bringIn 143 = .ok (.ireturn, 1) := by decide +kernel
theorem dX6_lookAtInactive_0 : decode cX6_lookAtInactive 0 = .ok (.iconst 0, 1) := by decide +kernel
theorem dX6_lookAtInactive_1 : decode cX6_lookAtInactive 1 = .ok (.istore_n 1, 1) := by decide +kernel
theorem dX6_lookAtInactive_2 : decode cX6_lookAtInactive 2 = .ok (.iload_n 1, 1) := by decide +kernel
theorem dX6_lookAtInactive_3 : decode cX6_lookAtInactive 3 = .ok (.iconst 2, 1) := by decide +kernel
theorem dX6_lookAtInactive_4 : decode cX6_lookAtInactive 4 = .ok (.aload_n 0, 1) := by decide +kernel
theorem dX6_lookAtInactive_5 : decode cX6_lookAtInactive 5 = .ok (.getfield 49, 3) := by decide +kernel
theorem dX6_lookAtInactive_8 : decode cX6_lookAtInactive 8 = .ok (.getfield 136, 3) := by decide +kernel
theorem dX6_lookAtInactive_11 : decode cX6_lookAtInactive 11 = .ok (.imul, 1) := by decide +kernel
theorem dX6_lookAtInactive_12 : decode cX6_lookAtInactive 12 = .ok (.if_icmp .ge 118, 3) := by decide +kernel
theorem dX6_lookAtInactive_15 : decode cX6_lookAtInactive 15 = .ok (.aload_n 0, 1) := by decide +kernel
theorem dX6_lookAtInactive_16 : decode cX6_lookAtInactive 16 = .ok (.getfield 49, 3) := by decide +kernel
theorem dX6_lookAtInactive_19 : decode cX6_lookAtInactive 19 = .ok (.getfield 223, 3) := by decide +kernel
theorem dX6_lookAtInactive_22 : decode cX6_lookAtInactive 22 = .ok (.invokevirtual 314, 3) := by decide +kernel
theorem dX6_lookAtInactive_25 : decode cX6_lookAtInactive 25 = .ok (.istore_n 2, 1) := by decide +kernel
theorem dX6_lookAtInactive_26 : decode cX6_lookAtInactive 26 = .ok (.iload_n 2, 1) := by decide +kernel
theorem dX6_lookAtInactive_27 : decode cX6_lookAtInactive 27 = .ok (.iconst (-1), 1) := by decide +kernel
theorem dX6_lookAtInactive_28 : decode cX6_lookAtInactive 28 = .ok (.if_icmp .ne 5, 3) := by decide +kernel
theorem dX6_lookAtInactive_31 : decode cX6_lookAtInactive 31 = .ok (.iconst (-1), 1) := by decide +kernel
theorem dX6_lookAtInactive_32 : decode cX6_lookAtInactive 32 = .ok (.ireturn, 1) := by decide +kernel
theorem dX6_lookAtInactive_33 : decode cX6_lookAtInactive 33 = .ok (.aload_n 0, 1) := by decide +kernel
theorem dX6_lookAtInactive_34 : decode cX6_lookAtInactive 34 = .ok (.getfield 49, 3) := by decide +kernel
theorem dX6_lookAtInactive_37 : decode cX6_lookAtInactive 37 = .ok (.getfield 146, 3) := by decide +kernel
theorem dX6_lookAtInactive_40 : decode cX6_lookAtInactive 40 = .ok (.iload_n 2, 1) := by decide +kernel
theorem dX6_lookAtInactive_41 : decode cX6_lookAtInactive 41 = .ok (.baload, 1) := by decide +kernel
theorem dX6_lookAtInactive_42 : decode cX6_lookAtInactive 42 = .ok (.ifCond .eq 15, 3) := by decide +kernel
theorem dX6_lookAtInactive_45 : decode cX6_lookAtInactive 45 = .ok (.aload_n 0, 1) := by decide +kernel
theorem dX6_lookAtInactive_46 : decode cX6_lookAtInactive 46 = .ok (.getfield 49, 3) := by decide +kernel
theorem dX6_lookAtInactive_49 : decode cX6_lookAtInactive 49 = .ok (.iload_n 2, 1) := by decide +kernel
theorem dX6_lookAtInactive_50 : decode cX6_lookAtInactive 50 = .ok (.iconst 0, 1) := by decide +kernel
theorem dX6_lookAtInactive_51 : decode cX6_lookAtInactive 51 = .ok (.invokevirtual 317, 3) := by decide +kernel
theorem dX6_lookAtInactive_54 : decode cX6_lookAtInactive 54 = .ok (.goto 70, 3) := by decide +kernel
theorem dX6_lookAtInactive_57 : decode cX6_lookAtInactive 57 = .ok (.aload_n 0, 1) := by decide +kernel
theorem dX6_lookAtInactive_58 : decode cX6_lookAtInactive 58 = .ok (.getfield 49, 3) := by decide +kernel
theorem dX6_lookAtInactive_61 : decode cX6_lookAtInactive 61 = .ok (.getfield 190, 3) := by decide +kernel
theorem dX6_lookAtInactive_64 : decode cX6_lookAtInactive 64 = .ok (.iload_n 2, 1) := by decide +kernel
theorem dX6_lookAtInactive_65 : decode cX6_lookAtInactive 65 = .ok (.baload, 1) := by decide +kernel
theorem dX6_lookAtInactive_66 : decode cX6_lookAtInactive 66 = .ok (.ifCond .eq 25, 3) := by decide +kernel
theorem dX6_lookAtInactive_69 : decode cX6_lookAtInactive 69 = .ok (.aload_n 0, 1) := by decide +kernel
theorem dX6_lookAtInactive_70 : decode cX6_lookAtInactive 70 = .ok (.getfield 49, 3) := by decide +kernel
theorem dX6_lookAtInactive_73 : decode cX6_lookAtInactive 73 = .ok (.getfield 190, 3) := by decide +kernel
theorem dX6_lookAtInactive_76 : decode cX6_lookAtInactive 76 = .ok (.iload_n 2, 1) := by decide +kernel
theorem dX6_lookAtInactive_77 : decode cX6_lookAtInactive 77 = .ok (.iconst 0, 1) := by decide +kernel
theorem dX6_lookAtInactive_78 : decode cX6_lookAtInactive 78 = .ok (.bastore, 1) := by decide +kernel
theorem dX6_lookAtInactive_79 : decode cX6_lookAtInactive 79 = .ok (.aload_n 0, 1) := by decide +kernel
theorem dX6_lookAtInactive_80 : decode cX6_lookAtInactive 80 = .ok (.getfield 49, 3) := by decide +kernel
theorem dX6_lookAtInactive_83 : decode cX6_lookAtInactive 83 = .ok (.iload_n 2, 1) := by decide +kernel
theorem dX6_lookAtInactive_84 : decode cX6_lookAtInactive 84 = .ok (.iconst 1, 1) := by decide +kernel
theorem dX6_lookAtInactive_85 : decode cX6_lookAtInactive 85 = .ok (.invokevirtual 317, 3) := by decide +kernel
theorem dX6_lookAtInactive_88 : decode cX6_lookAtInactive 88 = .ok (.goto 36, 3) := by decide +kernel
theorem dX6_lookAtInactive_91 : decode cX6_lookAtInactive 91 = .ok (.aload_n 0, 1) := by decide +kernel
theorem dX6_lookAtInactive_92 : decode cX6_lookAtInactive 92 = .ok (.getfield 49, 3) := by decide +kernel
theorem dX6_lookAtInactive_95 : decode cX6_lookAtInactive 95 = .ok (.iload_n 2, 1) := by decide +kernel
theorem dX6_lookAtInactive_96 : decode cX6_lookAtInactive 96 = .ok (.invokevirtual 121, 3) := by decide +kernel
theorem dX6_lookAtInactive_99 : decode cX6_lookAtInactive 99 = .ok (.ifCond .eq 23, 3) := by decide +kernel
theorem dX6_lookAtInactive_102 : decode cX6_lookAtInactive 102 = .ok (.aload_n 0, 1) := by decide +kernel
theorem dX6_lookAtInactive_103 : decode cX6_lookAtInactive 103 = .ok (.iload_n 2, 1) := by decide +kernel
theorem dX6_lookAtInactive_104 : decode cX6_lookAtInactive 104 = .ok (.invokevirtual 124, 3) := by decide +kernel
theorem dX6_lookAtInactive_107 : decode cX6_lookAtInactive 107 = .ok (.ifCond .ne 15, 3) := by decide +kernel
theorem dX6_lookAtInactive_110 : decode cX6_lookAtInactive 110 = .ok (.aload_n 0, 1) := by decide +kernel
theorem dX6_lookAtInactive_111 : decode cX6_lookAtInactive 111 = .ok (.getfield 49, 3) := by decide +kernel
theorem dX6_lookAtInactive_114 : decode cX6_lookAtInactive 114 = .ok (.iload_n 2, 1) := by decide +kernel
theorem dX6_lookAtInactive_115 : decode cX6_lookAtInactive 115 = .ok (.iconst 0, 1) := by decide +kernel
theorem dX6_lookAtInactive_116 : decode cX6_lookAtInactive 116 = .ok (.invokevirtual 317, 3) := by decide +kernel
theorem dX6_lookAtInactive_119 : decode cX6_lookAtInactive 119 = .ok (.goto 5, 3) := by decide +kernel
theorem dX6_lookAtInactive_122 : decode cX6_lookAtInactive 122 = .ok (.iload_n 2, 1) := by decide +kernel
theorem dX6_lookAtInactive_123 : decode cX6_lookAtInactive 123 = .ok (.ireturn, 1) := by decide +kernel
theorem dX6_lookAtInactive_124 : decode cX6_lookAtInactive 124 = .ok (.iinc 1 1, 3) := by decide +kernel
theorem dX6_lookAtInactive_127 : decode cX6_lookAtInactive 127 = .ok (.goto (-125), 3) := by decide +kernel
theorem dX6_lookAtInactive_130 : decode cX6_lookAtInactive 130 = .ok (.iconst (-1), 1) := by decide +kernel
theorem dX6_lookAtInactive_131 : decode cX6_lookAtInactive 131 = .ok (.ireturn, 1) := by decide +kernel
theorem dX6_lookAtActive_0 : decode cX6_lookAtActive 0 = .ok (.aload_n 0, 1) := by decide +kernel
theorem dX6_lookAtActive_1 : decode cX6_lookAtActive 1 = .ok (.getfield 49, 3) := by decide +kernel
theorem dX6_lookAtActive_4 : decode cX6_lookAtActive 4 = .ok (.getfield 214, 3) := by decide +kernel
theorem dX6_lookAtActive_7 : decode cX6_lookAtActive 7 = .ok (.getfield 244, 3) := by decide +kernel
theorem dX6_lookAtActive_10 : decode cX6_lookAtActive 10 = .ok (.iconst 1, 1) := by decide +kernel
theorem dX6_lookAtActive_11 : decode cX6_lookAtActive 11 = .ok (.isub, 1) := by decide +kernel
theorem dX6_lookAtActive_12 : decode cX6_lookAtActive 12 = .ok (.istore_n 1, 1) := by decide +kernel
theorem dX6_lookAtActive_13 : decode cX6_lookAtActive 13 = .ok (.iload_n 1, 1) := by decide +kernel
theorem dX6_lookAtActive_14 : decode cX6_lookAtActive 14 = .ok (.ifCond .lt 59, 3) := by decide +kernel
theorem dX6_lookAtActive_17 : decode cX6_lookAtActive 17 = .ok (.aload_n 0, 1) := by decide +kernel
theorem dX6_lookAtActive_18 : decode cX6_lookAtActive 18 = .ok (.getfield 49, 3) := by decide +kernel
theorem dX6_lookAtActive_21 : decode cX6_lookAtActive 21 = .ok (.getfield 214, 3) := by decide +kernel
theorem dX6_lookAtActive_24 : decode cX6_lookAtActive 24 = .ok (.iload_n 1, 1) := by decide +kernel
theorem dX6_lookAtActive_25 : decode cX6_lookAtActive 25 = .ok (.invokevirtual 218, 3) := by decide +kernel
theorem dX6_lookAtActive_28 : decode cX6_lookAtActive 28 = .ok (.istore_n 2, 1) := by decide +kernel
theorem dX6_lookAtActive_29 : decode cX6_lookAtActive 29 = .ok (.iload_n 2, 1) := by decide +kernel
theorem dX6_lookAtActive_30 : decode cX6_lookAtActive 30 = .ok (.iconst (-1), 1) := by decide +kernel
theorem dX6_lookAtActive_31 : decode cX6_lookAtActive 31 = .ok (.if_icmp .eq 36, 3) := by decide +kernel
theorem dX6_lookAtActive_34 : decode cX6_lookAtActive 34 = .ok (.aload_n 0, 1) := by decide +kernel
theorem dX6_lookAtActive_35 : decode cX6_lookAtActive 35 = .ok (.getfield 49, 3) := by decide +kernel
theorem dX6_lookAtActive_38 : decode cX6_lookAtActive 38 = .ok (.getfield 146, 3) := by decide +kernel
theorem dX6_lookAtActive_41 : decode cX6_lookAtActive 41 = .ok (.iload_n 2, 1) := by decide +kernel
theorem dX6_lookAtActive_42 : decode cX6_lookAtActive 42 = .ok (.baload, 1) := by decide +kernel
theorem dX6_lookAtActive_43 : decode cX6_lookAtActive 43 = .ok (.ifCond .ne 24, 3) := by decide +kernel
theorem dX6_lookAtActive_46 : decode cX6_lookAtActive 46 = .ok (.aload_n 0, 1) := by decide +kernel
theorem dX6_lookAtActive_47 : decode cX6_lookAtActive 47 = .ok (.getfield 49, 3) := by decide +kernel
theorem dX6_lookAtActive_50 : decode cX6_lookAtActive 50 = .ok (.iload_n 2, 1) := by decide +kernel
theorem dX6_lookAtActive_51 : decode cX6_lookAtActive 51 = .ok (.invokevirtual 121, 3) := by decide +kernel
theorem dX6_lookAtActive_54 : decode cX6_lookAtActive 54 = .ok (.ifCond .eq 11, 3) := by decide +kernel
theorem dX6_lookAtActive_57 : decode cX6_lookAtActive 57 = .ok (.aload_n 0, 1) := by decide +kernel
theorem dX6_lookAtActive_58 : decode cX6_lookAtActive 58 = .ok (.iload_n 2, 1) := by decide +kernel
theorem dX6_lookAtActive_59 : decode cX6_lookAtActive 59 = .ok (.invokevirtual 124, 3) := by decide +kernel
theorem dX6_lookAtActive_62 : decode cX6_lookAtActive 62 = .ok (.ifCond .eq 5, 3) := by decide +kernel
theorem dX6_lookAtActive_65 : decode cX6_lookAtActive 65 = .ok (.iload_n 2, 1) := by decide +kernel
theorem dX6_lookAtActive_66 : decode cX6_lookAtActive 66 = .ok (.ireturn, 1) := by decide +kernel
theorem dX6_lookAtActive_67 : decode cX6_lookAtActive 67 = .ok (.iinc 1 (-1), 3) := by decide +kernel
theorem dX6_lookAtActive_70 : decode cX6_lookAtActive 70 = .ok (.goto (-57), 3) := by decide +kernel
theorem dX6_lookAtActive_73 : decode cX6_lookAtActive 73 = .ok (.iconst (-1), 1) := by decide +kernel
theorem dX6_lookAtActive_74 : decode cX6_lookAtActive 74 = .ok (.ireturn, 1) := by decide +kernel
theorem dX6_evict_0 : decode cX6_evict 0 = .ok (.aload_n 0, 1) := by decide +kernel
theorem dX6_evict_1 : decode cX6_evict 1 = .ok (.getfield 49, 3) := by decide +kernel
theorem dX6_evict_4 : decode cX6_evict 4 = .ok (.iload_n 1, 1) := by decide +kernel
theorem dX6_evict_5 : decode cX6_evict 5 = .ok (.invokevirtual 320, 3) := by decide +kernel
theorem dX6_evict_8 : decode cX6_evict 8 = .ok (.istore_n 2, 1) := by decide +kernel
theorem dX6_evict_9 : decode cX6_evict 9 = .ok (.aload_n 0, 1) := by decide +kernel
theorem dX6_evict_10 : decode cX6_evict 10 = .ok (.getfield 49, 3) := by decide +kernel
theorem dX6_evict_13 : decode cX6_evict 13 = .ok (.iload_n 1, 1) := by decide +kernel
theorem dX6_evict_14 : decode cX6_evict 14 = .ok (.invokevirtual 156, 3) := by decide +kernel
theorem dX6_evict_17 : decode cX6_evict 17 = .ok (.aload_n 0, 1) := by decide +kernel
theorem dX6_evict_18 : decode cX6_evict 18 = .ok (.getfield 56, 3) := by decide +kernel
theorem dX6_evict_21 : decode cX6_evict 21 = .ok (.iload_n 2, 1) := by decide +kernel
theorem dX6_evict_22 : decode cX6_evict 22 = .ok (.invokevirtual 323, 3) := by decide +kernel
theorem dX6_evict_25 : decode cX6_evict 25 = .ok (.return_, 1) := by decide +kernel
theorem dX6_flush_0 : decode cX6_flush 0 = .ok (.aload_n 0, 1) := by decide +kernel
theorem dX6_flush_1 : decode cX6_flush 1 = .ok (.getfield 49, 3) := by decide +kernel
theorem dX6_flush_4 : decode cX6_flush 4 = .ok (.iload_n 1, 1) := by decide +kernel
theorem dX6_flush_5 : decode cX6_flush 5 = .ok (.invokevirtual 320, 3) := by decide +kernel
theorem dX6_flush_8 : decode cX6_flush 8 = .ok (.istore_n 2, 1) := by decide +kernel
theorem dX6_flush_9 : decode cX6_flush 9 = .ok (.iload_n 2, 1) := by decide +kernel
theorem dX6_flush_10 : decode cX6_flush 10 = .ok (.iconst (-1), 1) := by decide +kernel
theorem dX6_flush_11 : decode cX6_flush 11 = .ok (.if_icmp .eq 11, 3) := by decide +kernel
theorem dX6_flush_14 : decode cX6_flush 14 = .ok (.aload_n 0, 1) := by decide +kernel
theorem dX6_flush_15 : decode cX6_flush 15 = .ok (.iload_n 2, 1) := by decide +kernel
theorem dX6_flush_16 : decode cX6_flush 16 = .ok (.invokevirtual 130, 3) := by decide +kernel
theorem dX6_flush_19 : decode cX6_flush 19 = .ok (.ifCond .ne 5, 3) := by decide +kernel
theorem dX6_flush_22 : decode cX6_flush 22 = .ok (.iconst 0, 1) := by decide +kernel
theorem dX6_flush_23 : decode cX6_flush 23 = .ok (.ireturn, 1) := by decide +kernel
theorem dX6_flush_24 : decode cX6_flush 24 = .ok (.iload_n 2, 1) := by decide +kernel
theorem dX6_flush_25 : decode cX6_flush 25 = .ok (.sipush 256, 3) := by decide +kernel
theorem dX6_flush_28 : decode cX6_flush 28 = .ok (.idiv, 1) := by decide +kernel
theorem dX6_flush_29 : decode cX6_flush 29 = .ok (.istore_n 3, 1) := by decide +kernel
theorem dX6_flush_30 : decode cX6_flush 30 = .ok (.aload_n 0, 1) := by decide +kernel
theorem dX6_flush_31 : decode cX6_flush 31 = .ok (.getfield 42, 3) := by decide +kernel
theorem dX6_flush_34 : decode cX6_flush 34 = .ok (.getfield 73, 3) := by decide +kernel
theorem dX6_flush_37 : decode cX6_flush 37 = .ok (.iload_n 3, 1) := by decide +kernel
theorem dX6_flush_38 : decode cX6_flush 38 = .ok (.iaload, 1) := by decide +kernel
theorem dX6_flush_39 : decode cX6_flush 39 = .ok (.iload_n 2, 1) := by decide +kernel
theorem dX6_flush_40 : decode cX6_flush 40 = .ok (.sipush 256, 3) := by decide +kernel
theorem dX6_flush_43 : decode cX6_flush 43 = .ok (.irem, 1) := by decide +kernel
theorem dX6_flush_44 : decode cX6_flush 44 = .ok (.bipush 64, 2) := by decide +kernel
theorem dX6_flush_46 : decode cX6_flush 46 = .ok (.imul, 1) := by decide +kernel
theorem dX6_flush_47 : decode cX6_flush 47 = .ok (.isub, 1) := by decide +kernel
theorem dX6_flush_48 : decode cX6_flush 48 = .ok (.istore 4, 2) := by decide +kernel
theorem dX6_flush_50 : decode cX6_flush 50 = .ok (.aload_n 0, 1) := by decide +kernel
theorem dX6_flush_51 : decode cX6_flush 51 = .ok (.getfield 35, 3) := by decide +kernel
theorem dX6_flush_54 : decode cX6_flush 54 = .ok (.aload_n 0, 1) := by decide +kernel
theorem dX6_flush_55 : decode cX6_flush 55 = .ok (.getfield 9, 3) := by decide +kernel
theorem dX6_flush_58 : decode cX6_flush 58 = .ok (.iload_n 2, 1) := by decide +kernel
theorem dX6_flush_59 : decode cX6_flush 59 = .ok (.iaload, 1) := by decide +kernel
theorem dX6_flush_60 : decode cX6_flush 60 = .ok (.aload_n 0, 1) := by decide +kernel
theorem dX6_flush_61 : decode cX6_flush 61 = .ok (.getfield 49, 3) := by decide +kernel
theorem dX6_flush_64 : decode cX6_flush 64 = .ok (.getfield 266, 3) := by decide +kernel
theorem dX6_flush_67 : decode cX6_flush 67 = .ok (.iload_n 1, 1) := by decide +kernel
theorem dX6_flush_68 : decode cX6_flush 68 = .ok (.iload 4, 2) := by decide +kernel
theorem dX6_flush_70 : decode cX6_flush 70 = .ok (.invokevirtual 326, 3) := by decide +kernel
theorem dX6_flush_73 : decode cX6_flush 73 = .ok (.ifCond .ne 15, 3) := by decide +kernel
theorem dX6_flush_76 : decode cX6_flush 76 = .ok (.aload_n 0, 1) := by decide +kernel
theorem dX6_flush_77 : decode cX6_flush 77 = .ok (.getfield 42, 3) := by decide +kernel
theorem dX6_flush_80 : decode cX6_flush 80 = .ok (.iload_n 3, 1) := by decide +kernel
theorem dX6_flush_81 : decode cX6_flush 81 = .ok (.bipush (-5), 2) := by decide +kernel
theorem dX6_flush_83 : decode cX6_flush 83 = .ok (.invokevirtual 330, 3) := by decide +kernel
theorem dX6_flush_86 : decode cX6_flush 86 = .ok (.iconst 0, 1) := by decide +kernel
theorem dX6_flush_87 : decode cX6_flush 87 = .ok (.ireturn, 1) := by decide +kernel
theorem dX6_flush_88 : decode cX6_flush 88 = .ok (.aload_n 0, 1) := by decide +kernel
theorem dX6_flush_89 : decode cX6_flush 89 = .ok (.getfield 49, 3) := by decide +kernel
theorem dX6_flush_92 : decode cX6_flush 92 = .ok (.iload_n 1, 1) := by decide +kernel
theorem dX6_flush_93 : decode cX6_flush 93 = .ok (.invokevirtual 333, 3) := by decide +kernel
theorem dX6_flush_96 : decode cX6_flush 96 = .ok (.iconst 1, 1) := by decide +kernel
theorem dX6_flush_97 : decode cX6_flush 97 = .ok (.ireturn, 1) := by decide +kernel
theorem dX6_giveBlock_0 : decode cX6_giveBlock 0 = .ok (.aload_n 0, 1) := by decide +kernel
theorem dX6_giveBlock_1 : decode cX6_giveBlock 1 = .ok (.getfield 9, 3) := by decide +kernel
theorem dX6_giveBlock_4 : decode cX6_giveBlock 4 = .ok (.iload_n 1, 1) := by decide +kernel
theorem dX6_giveBlock_5 : decode cX6_giveBlock 5 = .ok (.iaload, 1) := by decide +kernel
theorem dX6_giveBlock_6 : decode cX6_giveBlock 6 = .ok (.iconst (-1), 1) := by decide +kernel
theorem dX6_giveBlock_7 : decode cX6_giveBlock 7 = .ok (.if_icmp .ne 16, 3) := by decide +kernel
theorem dX6_giveBlock_10 : decode cX6_giveBlock 10 = .ok (.aload_n 0, 1) := by decide +kernel
theorem dX6_giveBlock_11 : decode cX6_giveBlock 11 = .ok (.getfield 9, 3) := by decide +kernel
theorem dX6_giveBlock_14 : decode cX6_giveBlock 14 = .ok (.iload_n 1, 1) := by decide +kernel
theorem dX6_giveBlock_15 : decode cX6_giveBlock 15 = .ok (.aload_n 0, 1) := by decide +kernel
theorem dX6_giveBlock_16 : decode cX6_giveBlock 16 = .ok (.getfield 35, 3) := by decide +kernel
theorem dX6_giveBlock_19 : decode cX6_giveBlock 19 = .ok (.invokevirtual 336, 3) := by decide +kernel
theorem dX6_giveBlock_22 : decode cX6_giveBlock 22 = .ok (.iastore, 1) := by decide +kernel
theorem dX6_giveBlock_23 : decode cX6_giveBlock 23 = .ok (.aload_n 0, 1) := by decide +kernel
theorem dX6_giveBlock_24 : decode cX6_giveBlock 24 = .ok (.getfield 9, 3) := by decide +kernel
theorem dX6_giveBlock_27 : decode cX6_giveBlock 27 = .ok (.iload_n 1, 1) := by decide +kernel
theorem dX6_giveBlock_28 : decode cX6_giveBlock 28 = .ok (.iaload, 1) := by decide +kernel
theorem dX6_giveBlock_29 : decode cX6_giveBlock 29 = .ok (.iconst (-1), 1) := by decide +kernel
theorem dX6_giveBlock_30 : decode cX6_giveBlock 30 = .ok (.if_icmp .ne 19, 3) := by decide +kernel
theorem dX6_giveBlock_33 : decode cX6_giveBlock 33 = .ok (.aload_n 0, 1) := by decide +kernel
theorem dX6_giveBlock_34 : decode cX6_giveBlock 34 = .ok (.getfield 42, 3) := by decide +kernel
theorem dX6_giveBlock_37 : decode cX6_giveBlock 37 = .ok (.iload_n 1, 1) := by decide +kernel
theorem dX6_giveBlock_38 : decode cX6_giveBlock 38 = .ok (.sipush 256, 3) := by decide +kernel
theorem dX6_giveBlock_41 : decode cX6_giveBlock 41 = .ok (.idiv, 1) := by decide +kernel
theorem dX6_giveBlock_42 : decode cX6_giveBlock 42 = .ok (.bipush (-4), 2) := by decide +kernel
theorem dX6_giveBlock_44 : decode cX6_giveBlock 44 = .ok (.invokevirtual 330, 3) := by decide +kernel
theorem dX6_giveBlock_47 : decode cX6_giveBlock 47 = .ok (.iconst 0, 1) := by decide +kernel
theorem dX6_giveBlock_48 : decode cX6_giveBlock 48 = .ok (.ireturn, 1) := by decide +kernel
theorem dX6_giveBlock_49 : decode cX6_giveBlock 49 = .ok (.iconst 1, 1) := by decide +kernel
theorem dX6_giveBlock_50 : decode cX6_giveBlock 50 = .ok (.ireturn, 1) := by decide +kernel
theorem dX6_writeSurplus_0 : decode cX6_writeSurplus 0 = .ok (.aload_n 0, 1) := by decide +kernel
theorem dX6_writeSurplus_1 : decode cX6_writeSurplus 1 = .ok (.getfield 49, 3) := by decide +kernel
theorem dX6_writeSurplus_4 : decode cX6_writeSurplus 4 = .ok (.getfield 153, 3) := by decide +kernel
theorem dX6_writeSurplus_7 : decode cX6_writeSurplus 7 = .ok (.aload_n 0, 1) := by decide +kernel
theorem dX6_writeSurplus_8 : decode cX6_writeSurplus 8 = .ok (.getfield 49, 3) := by decide +kernel
theorem dX6_writeSurplus_11 : decode cX6_writeSurplus 11 = .ok (.getfield 136, 3) := by decide +kernel
theorem dX6_writeSurplus_14 : decode cX6_writeSurplus 14 = .ok (.iconst 2, 1) := by decide +kernel
theorem dX6_writeSurplus_15 : decode cX6_writeSurplus 15 = .ok (.idiv, 1) := by decide +kernel
theorem dX6_writeSurplus_16 : decode cX6_writeSurplus 16 = .ok (.if_icmp .gt 4, 3) := by decide +kernel
theorem dX6_writeSurplus_19 : decode cX6_writeSurplus 19 = .ok (.return_, 1) := by decide +kernel
theorem dX6_writeSurplus_20 : decode cX6_writeSurplus 20 = .ok (.aload_n 0, 1) := by decide +kernel
theorem dX6_writeSurplus_21 : decode cX6_writeSurplus 21 = .ok (.getfield 49, 3) := by decide +kernel
theorem dX6_writeSurplus_24 : decode cX6_writeSurplus 24 = .ok (.ldc2_w 337, 3) := by decide +kernel
theorem dX6_writeSurplus_27 : decode cX6_writeSurplus 27 = .ok (.invokevirtual 339, 3) := by decide +kernel
theorem dX6_writeSurplus_30 : decode cX6_writeSurplus 30 = .ok (.istore_n 1, 1) := by decide +kernel
theorem dX6_writeSurplus_31 : decode cX6_writeSurplus 31 = .ok (.iconst 0, 1) := by decide +kernel
theorem dX6_writeSurplus_32 : decode cX6_writeSurplus 32 = .ok (.istore_n 2, 1) := by decide +kernel
theorem dX6_writeSurplus_33 : decode cX6_writeSurplus 33 = .ok (.iload_n 2, 1) := by decide +kernel
theorem dX6_writeSurplus_34 : decode cX6_writeSurplus 34 = .ok (.aload_n 0, 1) := by decide +kernel
theorem dX6_writeSurplus_35 : decode cX6_writeSurplus 35 = .ok (.getfield 49, 3) := by decide +kernel
theorem dX6_writeSurplus_38 : decode cX6_writeSurplus 38 = .ok (.getfield 136, 3) := by decide +kernel
theorem dX6_writeSurplus_41 : decode cX6_writeSurplus 41 = .ok (.if_icmp .ge 57, 3) := by decide +kernel
theorem dX6_writeSurplus_44 : decode cX6_writeSurplus 44 = .ok (.iload_n 1, 1) := by decide +kernel
theorem dX6_writeSurplus_45 : decode cX6_writeSurplus 45 = .ok (.iconst (-1), 1) := by decide +kernel
theorem dX6_writeSurplus_46 : decode cX6_writeSurplus 46 = .ok (.if_icmp .eq 52, 3) := by decide +kernel
theorem dX6_writeSurplus_49 : decode cX6_writeSurplus 49 = .ok (.aload_n 0, 1) := by decide +kernel
theorem dX6_writeSurplus_50 : decode cX6_writeSurplus 50 = .ok (.getfield 49, 3) := by decide +kernel
theorem dX6_writeSurplus_53 : decode cX6_writeSurplus 53 = .ok (.getfield 153, 3) := by decide +kernel
theorem dX6_writeSurplus_56 : decode cX6_writeSurplus 56 = .ok (.aload_n 0, 1) := by decide +kernel
theorem dX6_writeSurplus_57 : decode cX6_writeSurplus 57 = .ok (.getfield 49, 3) := by decide +kernel
theorem dX6_writeSurplus_60 : decode cX6_writeSurplus 60 = .ok (.getfield 136, 3) := by decide +kernel
theorem dX6_writeSurplus_63 : decode cX6_writeSurplus 63 = .ok (.iconst 4, 1) := by decide +kernel
theorem dX6_writeSurplus_64 : decode cX6_writeSurplus 64 = .ok (.idiv, 1) := by decide +kernel
theorem dX6_writeSurplus_65 : decode cX6_writeSurplus 65 = .ok (.if_icmp .le 33, 3) := by decide +kernel
theorem dX6_writeSurplus_68 : decode cX6_writeSurplus 68 = .ok (.aload_n 0, 1) := by decide +kernel
theorem dX6_writeSurplus_69 : decode cX6_writeSurplus 69 = .ok (.getfield 49, 3) := by decide +kernel
theorem dX6_writeSurplus_72 : decode cX6_writeSurplus 72 = .ok (.iload_n 1, 1) := by decide +kernel
theorem dX6_writeSurplus_73 : decode cX6_writeSurplus 73 = .ok (.invokevirtual 343, 3) := by decide +kernel
theorem dX6_writeSurplus_76 : decode cX6_writeSurplus 76 = .ok (.lstore_n 3, 1) := by decide +kernel
theorem dX6_writeSurplus_77 : decode cX6_writeSurplus 77 = .ok (.aload_n 0, 1) := by decide +kernel
theorem dX6_writeSurplus_78 : decode cX6_writeSurplus 78 = .ok (.iload_n 1, 1) := by decide +kernel
theorem dX6_writeSurplus_79 : decode cX6_writeSurplus 79 = .ok (.invokevirtual 124, 3) := by decide +kernel
theorem dX6_writeSurplus_82 : decode cX6_writeSurplus 82 = .ok (.pop, 1) := by decide +kernel
theorem dX6_writeSurplus_83 : decode cX6_writeSurplus 83 = .ok (.aload_n 0, 1) := by decide +kernel
theorem dX6_writeSurplus_84 : decode cX6_writeSurplus 84 = .ok (.getfield 49, 3) := by decide +kernel
theorem dX6_writeSurplus_87 : decode cX6_writeSurplus 87 = .ok (.lload_n 3, 1) := by decide +kernel
theorem dX6_writeSurplus_88 : decode cX6_writeSurplus 88 = .ok (.invokevirtual 339, 3) := by decide +kernel
theorem dX6_writeSurplus_91 : decode cX6_writeSurplus 91 = .ok (.istore_n 1, 1) := by decide +kernel
theorem dX6_writeSurplus_92 : decode cX6_writeSurplus 92 = .ok (.iinc 2 1, 3) := by decide +kernel
theorem dX6_writeSurplus_95 : decode cX6_writeSurplus 95 = .ok (.goto (-62), 3) := by decide +kernel
theorem dX6_writeSurplus_98 : decode cX6_writeSurplus 98 = .ok (.return_, 1) := by decide +kernel
theorem dX6_writeAged_0 : decode cX6_writeAged 0 = .ok (.iconst 0, 1) := by decide +kernel
theorem dX6_writeAged_1 : decode cX6_writeAged 1 = .ok (.istore_n 1, 1) := by decide +kernel
theorem dX6_writeAged_2 : decode cX6_writeAged 2 = .ok (.aload_n 0, 1) := by decide +kernel
theorem dX6_writeAged_3 : decode cX6_writeAged 3 = .ok (.getfield 49, 3) := by decide +kernel
theorem dX6_writeAged_6 : decode cX6_writeAged 6 = .ok (.ldc2_w 337, 3) := by decide +kernel
theorem dX6_writeAged_9 : decode cX6_writeAged 9 = .ok (.invokevirtual 339, 3) := by decide +kernel
theorem dX6_writeAged_12 : decode cX6_writeAged 12 = .ok (.istore_n 2, 1) := by decide +kernel
theorem dX6_writeAged_13 : decode cX6_writeAged 13 = .ok (.iconst 0, 1) := by decide +kernel
theorem dX6_writeAged_14 : decode cX6_writeAged 14 = .ok (.istore_n 3, 1) := by decide +kernel
theorem dX6_writeAged_15 : decode cX6_writeAged 15 = .ok (.iload_n 3, 1) := by decide +kernel
theorem dX6_writeAged_16 : decode cX6_writeAged 16 = .ok (.iconst 4, 1) := by decide +kernel
theorem dX6_writeAged_17 : decode cX6_writeAged 17 = .ok (.if_icmp .ge 63, 3) := by decide +kernel
theorem dX6_writeAged_20 : decode cX6_writeAged 20 = .ok (.iload_n 2, 1) := by decide +kernel
theorem dX6_writeAged_21 : decode cX6_writeAged 21 = .ok (.iconst (-1), 1) := by decide +kernel
theorem dX6_writeAged_22 : decode cX6_writeAged 22 = .ok (.if_icmp .eq 58, 3) := by decide +kernel
theorem dX6_writeAged_25 : decode cX6_writeAged 25 = .ok (.aload_n 0, 1) := by decide +kernel
theorem dX6_writeAged_26 : decode cX6_writeAged 26 = .ok (.getfield 29, 3) := by decide +kernel
theorem dX6_writeAged_29 : decode cX6_writeAged 29 = .ok (.aload_n 0, 1) := by decide +kernel
theorem dX6_writeAged_30 : decode cX6_writeAged 30 = .ok (.getfield 49, 3) := by decide +kernel
theorem dX6_writeAged_33 : decode cX6_writeAged 33 = .ok (.getfield 181, 3) := by decide +kernel
theorem dX6_writeAged_36 : decode cX6_writeAged 36 = .ok (.iload_n 2, 1) := by decide +kernel
theorem dX6_writeAged_37 : decode cX6_writeAged 37 = .ok (.iaload, 1) := by decide +kernel
theorem dX6_writeAged_38 : decode cX6_writeAged 38 = .ok (.isub, 1) := by decide +kernel
theorem dX6_writeAged_39 : decode cX6_writeAged 39 = .ok (.iconst 5, 1) := by decide +kernel
theorem dX6_writeAged_40 : decode cX6_writeAged 40 = .ok (.if_icmp .lt 40, 3) := by decide +kernel
theorem dX6_writeAged_43 : decode cX6_writeAged 43 = .ok (.aload_n 0, 1) := by decide +kernel
theorem dX6_writeAged_44 : decode cX6_writeAged 44 = .ok (.getfield 49, 3) := by decide +kernel
theorem dX6_writeAged_47 : decode cX6_writeAged 47 = .ok (.iload_n 2, 1) := by decide +kernel
theorem dX6_writeAged_48 : decode cX6_writeAged 48 = .ok (.invokevirtual 343, 3) := by decide +kernel
theorem dX6_writeAged_51 : decode cX6_writeAged 51 = .ok (.lstore 4, 2) := by decide +kernel
theorem dX6_writeAged_53 : decode cX6_writeAged 53 = .ok (.aload_n 0, 1) := by decide +kernel
theorem dX6_writeAged_54 : decode cX6_writeAged 54 = .ok (.iload_n 2, 1) := by decide +kernel
theorem dX6_writeAged_55 : decode cX6_writeAged 55 = .ok (.invokevirtual 124, 3) := by decide +kernel
theorem dX6_writeAged_58 : decode cX6_writeAged 58 = .ok (.ifCond .eq 6, 3) := by decide +kernel
theorem dX6_writeAged_61 : decode cX6_writeAged 61 = .ok (.iinc 1 1, 3) := by decide +kernel
theorem dX6_writeAged_64 : decode cX6_writeAged 64 = .ok (.aload_n 0, 1) := by decide +kernel
theorem dX6_writeAged_65 : decode cX6_writeAged 65 = .ok (.getfield 49, 3) := by decide +kernel
theorem dX6_writeAged_68 : decode cX6_writeAged 68 = .ok (.lload 4, 2) := by decide +kernel
theorem dX6_writeAged_70 : decode cX6_writeAged 70 = .ok (.invokevirtual 339, 3) := by decide +kernel
theorem dX6_writeAged_73 : decode cX6_writeAged 73 = .ok (.istore_n 2, 1) := by decide +kernel
theorem dX6_writeAged_74 : decode cX6_writeAged 74 = .ok (.iinc 3 1, 3) := by decide +kernel
theorem dX6_writeAged_77 : decode cX6_writeAged 77 = .ok (.goto (-62), 3) := by decide +kernel
theorem dX6_writeAged_80 : decode cX6_writeAged 80 = .ok (.iload_n 1, 1) := by decide +kernel
theorem dX6_writeAged_81 : decode cX6_writeAged 81 = .ok (.ireturn, 1) := by decide +kernel
theorem dX6_leastDirtyBlock_0 : decode cX6_leastDirtyBlock 0 = .ok (.iconst (-1), 1) := by decide +kernel
theorem dX6_leastDirtyBlock_1 : decode cX6_leastDirtyBlock 1 = .ok (.istore_n 2, 1) := by decide +kernel
theorem dX6_leastDirtyBlock_2 : decode cX6_leastDirtyBlock 2 = .ok (.iconst 0, 1) := by decide +kernel
theorem dX6_leastDirtyBlock_3 : decode cX6_leastDirtyBlock 3 = .ok (.istore_n 3, 1) := by decide +kernel
theorem dX6_leastDirtyBlock_4 : decode cX6_leastDirtyBlock 4 = .ok (.iload_n 3, 1) := by decide +kernel
theorem dX6_leastDirtyBlock_5 : decode cX6_leastDirtyBlock 5 = .ok (.aload_n 0, 1) := by decide +kernel
theorem dX6_leastDirtyBlock_6 : decode cX6_leastDirtyBlock 6 = .ok (.getfield 49, 3) := by decide +kernel
theorem dX6_leastDirtyBlock_9 : decode cX6_leastDirtyBlock 9 = .ok (.getfield 136, 3) := by decide +kernel
theorem dX6_leastDirtyBlock_12 : decode cX6_leastDirtyBlock 12 = .ok (.if_icmp .ge 36, 3) := by decide +kernel
theorem dX6_leastDirtyBlock_15 : decode cX6_leastDirtyBlock 15 = .ok (.aload_n 0, 1) := by decide +kernel
theorem dX6_leastDirtyBlock_16 : decode cX6_leastDirtyBlock 16 = .ok (.iload_n 3, 1) := by decide +kernel
theorem dX6_leastDirtyBlock_17 : decode cX6_leastDirtyBlock 17 = .ok (.invokevirtual 347, 3) := by decide +kernel
theorem dX6_leastDirtyBlock_20 : decode cX6_leastDirtyBlock 20 = .ok (.istore 4, 2) := by decide +kernel
theorem dX6_leastDirtyBlock_22 : decode cX6_leastDirtyBlock 22 = .ok (.iload 4, 2) := by decide +kernel
theorem dX6_leastDirtyBlock_24 : decode cX6_leastDirtyBlock 24 = .ok (.iload_n 1, 1) := by decide +kernel
theorem dX6_leastDirtyBlock_25 : decode cX6_leastDirtyBlock 25 = .ok (.if_icmp .le 17, 3) := by decide +kernel
theorem dX6_leastDirtyBlock_28 : decode cX6_leastDirtyBlock 28 = .ok (.iload_n 2, 1) := by decide +kernel
theorem dX6_leastDirtyBlock_29 : decode cX6_leastDirtyBlock 29 = .ok (.iconst (-1), 1) := by decide +kernel
theorem dX6_leastDirtyBlock_30 : decode cX6_leastDirtyBlock 30 = .ok (.if_icmp .eq 9, 3) := by decide +kernel
theorem dX6_leastDirtyBlock_33 : decode cX6_leastDirtyBlock 33 = .ok (.iload 4, 2) := by decide +kernel
theorem dX6_leastDirtyBlock_35 : decode cX6_leastDirtyBlock 35 = .ok (.iload_n 2, 1) := by decide +kernel
theorem dX6_leastDirtyBlock_36 : decode cX6_leastDirtyBlock 36 = .ok (.if_icmp .ge 6, 3) := by decide +kernel
theorem dX6_leastDirtyBlock_39 : decode cX6_leastDirtyBlock 39 = .ok (.iload 4, 2) := by decide +kernel
theorem dX6_leastDirtyBlock_41 : decode cX6_leastDirtyBlock 41 = .ok (.istore_n 2, 1) := by decide +kernel
theorem dX6_leastDirtyBlock_42 : decode cX6_leastDirtyBlock 42 = .ok (.iinc 3 1, 3) := by decide +kernel
theorem dX6_leastDirtyBlock_45 : decode cX6_leastDirtyBlock 45 = .ok (.goto (-41), 3) := by decide +kernel
theorem dX6_leastDirtyBlock_48 : decode cX6_leastDirtyBlock 48 = .ok (.iload_n 2, 1) := by decide +kernel
theorem dX6_leastDirtyBlock_49 : decode cX6_leastDirtyBlock 49 = .ok (.ireturn, 1) := by decide +kernel
theorem dX6_dirtyFrameAt_0 : decode cX6_dirtyFrameAt 0 = .ok (.iconst 0, 1) := by decide +kernel
theorem dX6_dirtyFrameAt_1 : decode cX6_dirtyFrameAt 1 = .ok (.istore_n 2, 1) := by decide +kernel
theorem dX6_dirtyFrameAt_2 : decode cX6_dirtyFrameAt 2 = .ok (.iload_n 2, 1) := by decide +kernel
theorem dX6_dirtyFrameAt_3 : decode cX6_dirtyFrameAt 3 = .ok (.aload_n 0, 1) := by decide +kernel
theorem dX6_dirtyFrameAt_4 : decode cX6_dirtyFrameAt 4 = .ok (.getfield 49, 3) := by decide +kernel
theorem dX6_dirtyFrameAt_7 : decode cX6_dirtyFrameAt 7 = .ok (.getfield 136, 3) := by decide +kernel
theorem dX6_dirtyFrameAt_10 : decode cX6_dirtyFrameAt 10 = .ok (.if_icmp .ge 20, 3) := by decide +kernel
theorem dX6_dirtyFrameAt_13 : decode cX6_dirtyFrameAt 13 = .ok (.aload_n 0, 1) := by decide +kernel
theorem dX6_dirtyFrameAt_14 : decode cX6_dirtyFrameAt 14 = .ok (.iload_n 2, 1) := by decide +kernel
theorem dX6_dirtyFrameAt_15 : decode cX6_dirtyFrameAt 15 = .ok (.invokevirtual 347, 3) := by decide +kernel
theorem dX6_dirtyFrameAt_18 : decode cX6_dirtyFrameAt 18 = .ok (.iload_n 1, 1) := by decide +kernel
theorem dX6_dirtyFrameAt_19 : decode cX6_dirtyFrameAt 19 = .ok (.if_icmp .ne 5, 3) := by decide +kernel
theorem dX6_dirtyFrameAt_22 : decode cX6_dirtyFrameAt 22 = .ok (.iload_n 2, 1) := by decide +kernel
theorem dX6_dirtyFrameAt_23 : decode cX6_dirtyFrameAt 23 = .ok (.ireturn, 1) := by decide +kernel
theorem dX6_dirtyFrameAt_24 : decode cX6_dirtyFrameAt 24 = .ok (.iinc 2 1, 3) := by decide +kernel
theorem dX6_dirtyFrameAt_27 : decode cX6_dirtyFrameAt 27 = .ok (.goto (-25), 3) := by decide +kernel
theorem dX6_dirtyFrameAt_30 : decode cX6_dirtyFrameAt 30 = .ok (.iconst (-1), 1) := by decide +kernel
theorem dX6_dirtyFrameAt_31 : decode cX6_dirtyFrameAt 31 = .ok (.ireturn, 1) := by decide +kernel
theorem dX6_dirtyBlockIn_0 : decode cX6_dirtyBlockIn 0 = .ok (.aload_n 0, 1) := by decide +kernel
theorem dX6_dirtyBlockIn_1 : decode cX6_dirtyBlockIn 1 = .ok (.getfield 49, 3) := by decide +kernel
theorem dX6_dirtyBlockIn_4 : decode cX6_dirtyBlockIn 4 = .ok (.iload_n 1, 1) := by decide +kernel
theorem dX6_dirtyBlockIn_5 : decode cX6_dirtyBlockIn 5 = .ok (.invokevirtual 121, 3) := by decide +kernel
theorem dX6_dirtyBlockIn_8 : decode cX6_dirtyBlockIn 8 = .ok (.ifCond .eq 14, 3) := by decide +kernel
theorem dX6_dirtyBlockIn_11 : decode cX6_dirtyBlockIn 11 = .ok (.aload_n 0, 1) := by decide +kernel
theorem dX6_dirtyBlockIn_12 : decode cX6_dirtyBlockIn 12 = .ok (.getfield 49, 3) := by decide +kernel
theorem dX6_dirtyBlockIn_15 : decode cX6_dirtyBlockIn 15 = .ok (.iload_n 1, 1) := by decide +kernel
theorem dX6_dirtyBlockIn_16 : decode cX6_dirtyBlockIn 16 = .ok (.invokevirtual 320, 3) := by decide +kernel
theorem dX6_dirtyBlockIn_19 : decode cX6_dirtyBlockIn 19 = .ok (.goto 4, 3) := by decide +kernel
theorem dX6_dirtyBlockIn_22 : decode cX6_dirtyBlockIn 22 = .ok (.iconst (-1), 1) := by decide +kernel
theorem dX6_dirtyBlockIn_23 : decode cX6_dirtyBlockIn 23 = .ok (.istore_n 2, 1) := by decide +kernel
theorem dX6_dirtyBlockIn_24 : decode cX6_dirtyBlockIn 24 = .ok (.iload_n 2, 1) := by decide +kernel
theorem dX6_dirtyBlockIn_25 : decode cX6_dirtyBlockIn 25 = .ok (.iconst (-1), 1) := by decide +kernel
theorem dX6_dirtyBlockIn_26 : decode cX6_dirtyBlockIn 26 = .ok (.if_icmp .ne 7, 3) := by decide +kernel
theorem dX6_dirtyBlockIn_29 : decode cX6_dirtyBlockIn 29 = .ok (.iconst (-1), 1) := by decide +kernel
theorem dX6_dirtyBlockIn_30 : decode cX6_dirtyBlockIn 30 = .ok (.goto 9, 3) := by decide +kernel
theorem dX6_dirtyBlockIn_33 : decode cX6_dirtyBlockIn 33 = .ok (.aload_n 0, 1) := by decide +kernel
theorem dX6_dirtyBlockIn_34 : decode cX6_dirtyBlockIn 34 = .ok (.getfield 9, 3) := by decide +kernel
theorem dX6_dirtyBlockIn_37 : decode cX6_dirtyBlockIn 37 = .ok (.iload_n 2, 1) := by decide +kernel
theorem dX6_dirtyBlockIn_38 : decode cX6_dirtyBlockIn 38 = .ok (.iaload, 1) := by decide +kernel
theorem dX6_dirtyBlockIn_39 : decode cX6_dirtyBlockIn 39 = .ok (.ireturn, 1) := by decide +kernel
theorem dX6_isMarked_0 : decode cX6_isMarked 0 = .ok (.aload_n 0, 1) := by decide +kernel
theorem dX6_isMarked_1 : decode cX6_isMarked 1 = .ok (.getfield 49, 3) := by decide +kernel
theorem dX6_isMarked_4 : decode cX6_isMarked 4 = .ok (.iload_n 1, 1) := by decide +kernel
theorem dX6_isMarked_5 : decode cX6_isMarked 5 = .ok (.invokevirtual 118, 3) := by decide +kernel
theorem dX6_isMarked_8 : decode cX6_isMarked 8 = .ok (.istore_n 3, 1) := by decide +kernel
theorem dX6_isMarked_9 : decode cX6_isMarked 9 = .ok (.iload_n 2, 1) := by decide +kernel
theorem dX6_isMarked_10 : decode cX6_isMarked 10 = .ok (.tableswitch 96 0 3 #[30, 41, 50, 73], 30) := by decide +kernel
theorem dX6_isMarked_40 : decode cX6_isMarked 40 = .ok (.iload_n 3, 1) := by decide +kernel
theorem dX6_isMarked_41 : decode cX6_isMarked 41 = .ok (.iconst (-1), 1) := by decide +kernel
theorem dX6_isMarked_42 : decode cX6_isMarked 42 = .ok (.if_icmp .eq 7, 3) := by decide +kernel
theorem dX6_isMarked_45 : decode cX6_isMarked 45 = .ok (.iconst 1, 1) := by decide +kernel
theorem dX6_isMarked_46 : decode cX6_isMarked 46 = .ok (.goto 4, 3) := by decide +kernel
theorem dX6_isMarked_49 : decode cX6_isMarked 49 = .ok (.iconst 0, 1) := by decide +kernel
theorem dX6_isMarked_50 : decode cX6_isMarked 50 = .ok (.ireturn, 1) := by decide +kernel
theorem dX6_isMarked_51 : decode cX6_isMarked 51 = .ok (.aload_n 0, 1) := by decide +kernel
theorem dX6_isMarked_52 : decode cX6_isMarked 52 = .ok (.getfield 49, 3) := by decide +kernel
theorem dX6_isMarked_55 : decode cX6_isMarked 55 = .ok (.iload_n 3, 1) := by decide +kernel
theorem dX6_isMarked_56 : decode cX6_isMarked 56 = .ok (.invokevirtual 121, 3) := by decide +kernel
theorem dX6_isMarked_59 : decode cX6_isMarked 59 = .ok (.ireturn, 1) := by decide +kernel
theorem dX6_isMarked_60 : decode cX6_isMarked 60 = .ok (.iload_n 3, 1) := by decide +kernel
theorem dX6_isMarked_61 : decode cX6_isMarked 61 = .ok (.iconst (-1), 1) := by decide +kernel
theorem dX6_isMarked_62 : decode cX6_isMarked 62 = .ok (.if_icmp .eq 19, 3) := by decide +kernel
theorem dX6_isMarked_65 : decode cX6_isMarked 65 = .ok (.aload_n 0, 1) := by decide +kernel
theorem dX6_isMarked_66 : decode cX6_isMarked 66 = .ok (.getfield 49, 3) := by decide +kernel
theorem dX6_isMarked_69 : decode cX6_isMarked 69 = .ok (.getfield 190, 3) := by decide +kernel
theorem dX6_isMarked_72 : decode cX6_isMarked 72 = .ok (.iload_n 3, 1) := by decide +kernel
theorem dX6_isMarked_73 : decode cX6_isMarked 73 = .ok (.baload, 1) := by decide +kernel
theorem dX6_isMarked_74 : decode cX6_isMarked 74 = .ok (.ifCond .eq 7, 3) := by decide +kernel
theorem dX6_isMarked_77 : decode cX6_isMarked 77 = .ok (.iconst 1, 1) := by decide +kernel
theorem dX6_isMarked_78 : decode cX6_isMarked 78 = .ok (.goto 4, 3) := by decide +kernel
theorem dX6_isMarked_81 : decode cX6_isMarked 81 = .ok (.iconst 0, 1) := by decide +kernel
theorem dX6_isMarked_82 : decode cX6_isMarked 82 = .ok (.ireturn, 1) := by decide +kernel
theorem dX6_isMarked_83 : decode cX6_isMarked 83 = .ok (.iload_n 3, 1) := by decide +kernel
theorem dX6_isMarked_84 : decode cX6_isMarked 84 = .ok (.iconst (-1), 1) := by decide +kernel
theorem dX6_isMarked_85 : decode cX6_isMarked 85 = .ok (.if_icmp .eq 19, 3) := by decide +kernel
theorem dX6_isMarked_88 : decode cX6_isMarked 88 = .ok (.aload_n 0, 1) := by decide +kernel
theorem dX6_isMarked_89 : decode cX6_isMarked 89 = .ok (.getfield 49, 3) := by decide +kernel
theorem dX6_isMarked_92 : decode cX6_isMarked 92 = .ok (.getfield 146, 3) := by decide +kernel
theorem dX6_isMarked_95 : decode cX6_isMarked 95 = .ok (.iload_n 3, 1) := by decide +kernel
theorem dX6_isMarked_96 : decode cX6_isMarked 96 = .ok (.baload, 1) := by decide +kernel
theorem dX6_isMarked_97 : decode cX6_isMarked 97 = .ok (.ifCond .eq 7, 3) := by decide +kernel
theorem dX6_isMarked_100 : decode cX6_isMarked 100 = .ok (.iconst 1, 1) := by decide +kernel
theorem dX6_isMarked_101 : decode cX6_isMarked 101 = .ok (.goto 4, 3) := by decide +kernel
theorem dX6_isMarked_104 : decode cX6_isMarked 104 = .ok (.iconst 0, 1) := by decide +kernel
theorem dX6_isMarked_105 : decode cX6_isMarked 105 = .ok (.ireturn, 1) := by decide +kernel
theorem dX6_isMarked_106 : decode cX6_isMarked 106 = .ok (.aload_n 0, 1) := by decide +kernel
theorem dX6_isMarked_107 : decode cX6_isMarked 107 = .ok (.getfield 56, 3) := by decide +kernel
theorem dX6_isMarked_110 : decode cX6_isMarked 110 = .ok (.iload_n 1, 1) := by decide +kernel
theorem dX6_isMarked_111 : decode cX6_isMarked 111 = .ok (.invokevirtual 184, 3) := by decide +kernel
theorem dX6_isMarked_114 : decode cX6_isMarked 114 = .ok (.iconst (-1), 1) := by decide +kernel
theorem dX6_isMarked_115 : decode cX6_isMarked 115 = .ok (.if_icmp .eq 7, 3) := by decide +kernel
theorem dX6_isMarked_118 : decode cX6_isMarked 118 = .ok (.iconst 1, 1) := by decide +kernel
theorem dX6_isMarked_119 : decode cX6_isMarked 119 = .ok (.goto 4, 3) := by decide +kernel
theorem dX6_isMarked_122 : decode cX6_isMarked 122 = .ok (.iconst 0, 1) := by decide +kernel
theorem dX6_isMarked_123 : decode cX6_isMarked 123 = .ok (.ireturn, 1) := by decide +kernel
theorem dX6_isEntry_0 : decode cX6_isEntry 0 = .ok (.aload_n 0, 1) := by decide +kernel
theorem dX6_isEntry_1 : decode cX6_isEntry 1 = .ok (.getfield 49, 3) := by decide +kernel
theorem dX6_isEntry_4 : decode cX6_isEntry 4 = .ok (.iload_n 1, 1) := by decide +kernel
theorem dX6_isEntry_5 : decode cX6_isEntry 5 = .ok (.invokevirtual 118, 3) := by decide +kernel
theorem dX6_isEntry_8 : decode cX6_isEntry 8 = .ok (.iconst (-1), 1) := by decide +kernel
theorem dX6_isEntry_9 : decode cX6_isEntry 9 = .ok (.if_icmp .ne 15, 3) := by decide +kernel
theorem dX6_isEntry_12 : decode cX6_isEntry 12 = .ok (.aload_n 0, 1) := by decide +kernel
theorem dX6_isEntry_13 : decode cX6_isEntry 13 = .ok (.getfield 56, 3) := by decide +kernel
theorem dX6_isEntry_16 : decode cX6_isEntry 16 = .ok (.iload_n 1, 1) := by decide +kernel
theorem dX6_isEntry_17 : decode cX6_isEntry 17 = .ok (.invokevirtual 184, 3) := by decide +kernel
theorem dX6_isEntry_20 : decode cX6_isEntry 20 = .ok (.iconst (-1), 1) := by decide +kernel
theorem dX6_isEntry_21 : decode cX6_isEntry 21 = .ok (.if_icmp .eq 7, 3) := by decide +kernel
theorem dX6_isEntry_24 : decode cX6_isEntry 24 = .ok (.iconst 1, 1) := by decide +kernel
theorem dX6_isEntry_25 : decode cX6_isEntry 25 = .ok (.goto 4, 3) := by decide +kernel
theorem dX6_isEntry_28 : decode cX6_isEntry 28 = .ok (.iconst 0, 1) := by decide +kernel
theorem dX6_isEntry_29 : decode cX6_isEntry 29 = .ok (.ireturn, 1) := by decide +kernel
theorem dX6_treeEntries_0 : decode cX6_treeEntries 0 = .ok (.iconst 0, 1) := by decide +kernel
theorem dX6_treeEntries_1 : decode cX6_treeEntries 1 = .ok (.istore_n 2, 1) := by decide +kernel
theorem dX6_treeEntries_2 : decode cX6_treeEntries 2 = .ok (.iconst 0, 1) := by decide +kernel
theorem dX6_treeEntries_3 : decode cX6_treeEntries 3 = .ok (.istore_n 3, 1) := by decide +kernel
theorem dX6_treeEntries_4 : decode cX6_treeEntries 4 = .ok (.iload_n 3, 1) := by decide +kernel
theorem dX6_treeEntries_5 : decode cX6_treeEntries 5 = .ok (.sipush 256, 3) := by decide +kernel
theorem dX6_treeEntries_8 : decode cX6_treeEntries 8 = .ok (.if_icmp .ge 24, 3) := by decide +kernel
theorem dX6_treeEntries_11 : decode cX6_treeEntries 11 = .ok (.aload_n 0, 1) := by decide +kernel
theorem dX6_treeEntries_12 : decode cX6_treeEntries 12 = .ok (.iload_n 1, 1) := by decide +kernel
theorem dX6_treeEntries_13 : decode cX6_treeEntries 13 = .ok (.iload_n 3, 1) := by decide +kernel
theorem dX6_treeEntries_14 : decode cX6_treeEntries 14 = .ok (.invokestatic 105, 3) := by decide +kernel
theorem dX6_treeEntries_17 : decode cX6_treeEntries 17 = .ok (.invokevirtual 350, 3) := by decide +kernel
theorem dX6_treeEntries_20 : decode cX6_treeEntries 20 = .ok (.ifCond .eq 6, 3) := by decide +kernel
theorem dX6_treeEntries_23 : decode cX6_treeEntries 23 = .ok (.iinc 2 1, 3) := by decide +kernel
theorem dX6_treeEntries_26 : decode cX6_treeEntries 26 = .ok (.iinc 3 1, 3) := by decide +kernel
theorem dX6_treeEntries_29 : decode cX6_treeEntries 29 = .ok (.goto (-25), 3) := by decide +kernel
theorem dX6_treeEntries_32 : decode cX6_treeEntries 32 = .ok (.iload_n 2, 1) := by decide +kernel
theorem dX6_treeEntries_33 : decode cX6_treeEntries 33 = .ok (.ireturn, 1) := by decide +kernel
theorem dX6_treeHeight_0 : decode cX6_treeHeight 0 = .ok (.sipush 255, 3) := by decide +kernel
theorem dX6_treeHeight_3 : decode cX6_treeHeight 3 = .ok (.istore_n 2, 1) := by decide +kernel
theorem dX6_treeHeight_4 : decode cX6_treeHeight 4 = .ok (.iload_n 2, 1) := by decide +kernel
theorem dX6_treeHeight_5 : decode cX6_treeHeight 5 = .ok (.ifCond .lt 52, 3) := by decide +kernel
theorem dX6_treeHeight_8 : decode cX6_treeHeight 8 = .ok (.aload_n 0, 1) := by decide +kernel
theorem dX6_treeHeight_9 : decode cX6_treeHeight 9 = .ok (.iload_n 1, 1) := by decide +kernel
theorem dX6_treeHeight_10 : decode cX6_treeHeight 10 = .ok (.iload_n 2, 1) := by decide +kernel
theorem dX6_treeHeight_11 : decode cX6_treeHeight 11 = .ok (.invokestatic 105, 3) := by decide +kernel
theorem dX6_treeHeight_14 : decode cX6_treeHeight 14 = .ok (.invokevirtual 350, 3) := by decide +kernel
theorem dX6_treeHeight_17 : decode cX6_treeHeight 17 = .ok (.ifCond .eq 34, 3) := by decide +kernel
theorem dX6_treeHeight_20 : decode cX6_treeHeight 20 = .ok (.iload_n 2, 1) := by decide +kernel
theorem dX6_treeHeight_21 : decode cX6_treeHeight 21 = .ok (.iconst 4, 1) := by decide +kernel
theorem dX6_treeHeight_22 : decode cX6_treeHeight 22 = .ok (.if_icmp .ge 7, 3) := by decide +kernel
theorem dX6_treeHeight_25 : decode cX6_treeHeight 25 = .ok (.iconst 1, 1) := by decide +kernel
theorem dX6_treeHeight_26 : decode cX6_treeHeight 26 = .ok (.goto 24, 3) := by decide +kernel
theorem dX6_treeHeight_29 : decode cX6_treeHeight 29 = .ok (.iload_n 2, 1) := by decide +kernel
theorem dX6_treeHeight_30 : decode cX6_treeHeight 30 = .ok (.bipush 16, 2) := by decide +kernel
theorem dX6_treeHeight_32 : decode cX6_treeHeight 32 = .ok (.if_icmp .ge 7, 3) := by decide +kernel
theorem dX6_treeHeight_35 : decode cX6_treeHeight 35 = .ok (.iconst 2, 1) := by decide +kernel
theorem dX6_treeHeight_36 : decode cX6_treeHeight 36 = .ok (.goto 14, 3) := by decide +kernel
theorem dX6_treeHeight_39 : decode cX6_treeHeight 39 = .ok (.iload_n 2, 1) := by decide +kernel
theorem dX6_treeHeight_40 : decode cX6_treeHeight 40 = .ok (.bipush 64, 2) := by decide +kernel
theorem dX6_treeHeight_42 : decode cX6_treeHeight 42 = .ok (.if_icmp .ge 7, 3) := by decide +kernel
theorem dX6_treeHeight_45 : decode cX6_treeHeight 45 = .ok (.iconst 3, 1) := by decide +kernel
theorem dX6_treeHeight_46 : decode cX6_treeHeight 46 = .ok (.goto 4, 3) := by decide +kernel
theorem dX6_treeHeight_49 : decode cX6_treeHeight 49 = .ok (.iconst 4, 1) := by decide +kernel
theorem dX6_treeHeight_50 : decode cX6_treeHeight 50 = .ok (.ireturn, 1) := by decide +kernel
theorem dX6_treeHeight_51 : decode cX6_treeHeight 51 = .ok (.iinc 2 (-1), 3) := by decide +kernel
theorem dX6_treeHeight_54 : decode cX6_treeHeight 54 = .ok (.goto (-50), 3) := by decide +kernel
theorem dX6_treeHeight_57 : decode cX6_treeHeight 57 = .ok (.iconst 0, 1) := by decide +kernel
theorem dX6_treeHeight_58 : decode cX6_treeHeight 58 = .ok (.ireturn, 1) := by decide +kernel
theorem dX6_treeNodes_0 : decode cX6_treeNodes 0 = .ok (.aload_n 0, 1) := by decide +kernel
theorem dX6_treeNodes_1 : decode cX6_treeNodes 1 = .ok (.iload_n 1, 1) := by decide +kernel
theorem dX6_treeNodes_2 : decode cX6_treeNodes 2 = .ok (.invokevirtual 199, 3) := by decide +kernel
theorem dX6_treeNodes_5 : decode cX6_treeNodes 5 = .ok (.istore_n 2, 1) := by decide +kernel
theorem dX6_treeNodes_6 : decode cX6_treeNodes 6 = .ok (.iconst 0, 1) := by decide +kernel
theorem dX6_treeNodes_7 : decode cX6_treeNodes 7 = .ok (.istore_n 3, 1) := by decide +kernel
theorem dX6_treeNodes_8 : decode cX6_treeNodes 8 = .ok (.iconst 1, 1) := by decide +kernel
theorem dX6_treeNodes_9 : decode cX6_treeNodes 9 = .ok (.istore 4, 2) := by decide +kernel
theorem dX6_treeNodes_11 : decode cX6_treeNodes 11 = .ok (.iload 4, 2) := by decide +kernel
theorem dX6_treeNodes_13 : decode cX6_treeNodes 13 = .ok (.iload_n 2, 1) := by decide +kernel
theorem dX6_treeNodes_14 : decode cX6_treeNodes 14 = .ok (.if_icmp .gt 65, 3) := by decide +kernel
theorem dX6_treeNodes_17 : decode cX6_treeNodes 17 = .ok (.iconst (-1), 1) := by decide +kernel
theorem dX6_treeNodes_18 : decode cX6_treeNodes 18 = .ok (.istore 5, 2) := by decide +kernel
theorem dX6_treeNodes_20 : decode cX6_treeNodes 20 = .ok (.iconst 0, 1) := by decide +kernel
theorem dX6_treeNodes_21 : decode cX6_treeNodes 21 = .ok (.istore 6, 2) := by decide +kernel
theorem dX6_treeNodes_23 : decode cX6_treeNodes 23 = .ok (.iload 6, 2) := by decide +kernel
theorem dX6_treeNodes_25 : decode cX6_treeNodes 25 = .ok (.sipush 256, 3) := by decide +kernel
theorem dX6_treeNodes_28 : decode cX6_treeNodes 28 = .ok (.if_icmp .ge 45, 3) := by decide +kernel
theorem dX6_treeNodes_31 : decode cX6_treeNodes 31 = .ok (.iload 6, 2) := by decide +kernel
theorem dX6_treeNodes_33 : decode cX6_treeNodes 33 = .ok (.iconst 2, 1) := by decide +kernel
theorem dX6_treeNodes_34 : decode cX6_treeNodes 34 = .ok (.iload 4, 2) := by decide +kernel
theorem dX6_treeNodes_36 : decode cX6_treeNodes 36 = .ok (.imul, 1) := by decide +kernel
theorem dX6_treeNodes_37 : decode cX6_treeNodes 37 = .ok (.ishr, 1) := by decide +kernel
theorem dX6_treeNodes_38 : decode cX6_treeNodes 38 = .ok (.istore 7, 2) := by decide +kernel
theorem dX6_treeNodes_40 : decode cX6_treeNodes 40 = .ok (.iload 7, 2) := by decide +kernel
theorem dX6_treeNodes_42 : decode cX6_treeNodes 42 = .ok (.iload 5, 2) := by decide +kernel
theorem dX6_treeNodes_44 : decode cX6_treeNodes 44 = .ok (.if_icmp .eq 23, 3) := by decide +kernel
theorem dX6_treeNodes_47 : decode cX6_treeNodes 47 = .ok (.aload_n 0, 1) := by decide +kernel
theorem dX6_treeNodes_48 : decode cX6_treeNodes 48 = .ok (.iload_n 1, 1) := by decide +kernel
theorem dX6_treeNodes_49 : decode cX6_treeNodes 49 = .ok (.iload 6, 2) := by decide +kernel
theorem dX6_treeNodes_51 : decode cX6_treeNodes 51 = .ok (.invokestatic 105, 3) := by decide +kernel
theorem dX6_treeNodes_54 : decode cX6_treeNodes 54 = .ok (.invokevirtual 350, 3) := by decide +kernel
theorem dX6_treeNodes_57 : decode cX6_treeNodes 57 = .ok (.ifCond .eq 10, 3) := by decide +kernel
theorem dX6_treeNodes_60 : decode cX6_treeNodes 60 = .ok (.iload 7, 2) := by decide +kernel
theorem dX6_treeNodes_62 : decode cX6_treeNodes 62 = .ok (.istore 5, 2) := by decide +kernel
theorem dX6_treeNodes_64 : decode cX6_treeNodes 64 = .ok (.iinc 3 1, 3) := by decide +kernel
theorem dX6_treeNodes_67 : decode cX6_treeNodes 67 = .ok (.iinc 6 1, 3) := by decide +kernel
theorem dX6_treeNodes_70 : decode cX6_treeNodes 70 = .ok (.goto (-47), 3) := by decide +kernel
theorem dX6_treeNodes_73 : decode cX6_treeNodes 73 = .ok (.iinc 4 1, 3) := by decide +kernel
theorem dX6_treeNodes_76 : decode cX6_treeNodes 76 = .ok (.goto (-65), 3) := by decide +kernel
theorem dX6_treeNodes_79 : decode cX6_treeNodes 79 = .ok (.iload_n 3, 1) := by decide +kernel
theorem dX6_treeNodes_80 : decode cX6_treeNodes 80 = .ok (.ireturn, 1) := by decide +kernel
theorem dX7_init_0 : decode cX7_init 0 = .ok (.aload_n 0, 1) := by decide +kernel
theorem dX7_init_1 : decode cX7_init 1 = .ok (.invokespecial 1, 3) := by decide +kernel
theorem dX7_init_4 : decode cX7_init 4 = .ok (.aload_n 0, 1) := by decide +kernel
theorem dX7_init_5 : decode cX7_init 5 = .ok (.bipush 12, 2) := by decide +kernel
theorem dX7_init_7 : decode cX7_init 7 = .ok (.newarray .int, 2) := by decide +kernel
theorem dX7_init_9 : decode cX7_init 9 = .ok (.putfield 7, 3) := by decide +kernel
theorem dX7_init_12 : decode cX7_init 12 = .ok (.aload_n 0, 1) := by decide +kernel
theorem dX7_init_13 : decode cX7_init 13 = .ok (.bipush 12, 2) := by decide +kernel
theorem dX7_init_15 : decode cX7_init 15 = .ok (.newarray .int, 2) := by decide +kernel
theorem dX7_init_17 : decode cX7_init 17 = .ok (.putfield 13, 3) := by decide +kernel
theorem dX7_init_20 : decode cX7_init 20 = .ok (.aload_n 0, 1) := by decide +kernel
theorem dX7_init_21 : decode cX7_init 21 = .ok (.bipush 12, 2) := by decide +kernel
theorem dX7_init_23 : decode cX7_init 23 = .ok (.newarray .int, 2) := by decide +kernel
theorem dX7_init_25 : decode cX7_init 25 = .ok (.putfield 16, 3) := by decide +kernel
theorem dX7_init_28 : decode cX7_init 28 = .ok (.aload_n 0, 1) := by decide +kernel
theorem dX7_init_29 : decode cX7_init 29 = .ok (.bipush 12, 2) := by decide +kernel
theorem dX7_init_31 : decode cX7_init 31 = .ok (.newarray .int, 2) := by decide +kernel
