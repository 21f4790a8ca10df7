theorem dX0_init_0 : decode cX0_init 0 = .ok (.aload_n 0, 1) := by decide +kernel
theorem dX0_init_1 : decode cX0_init 1 = .ok (.invokespecial 3, 3) := by decide +kernel
theorem dX0_init_4 : decode cX0_init 4 = .ok (.aload_n 0, 1) := by decide +kernel
theorem dX0_init_5 : decode cX0_init 5 = .ok (.iconst 0, 1) := by decide +kernel
theorem dX0_init_6 : decode cX0_init 6 = .ok (.putfield 9, 3) := by decide +kernel
theorem dX0_init_9 : decode cX0_init 9 = .ok (.aload_n 0, 1) := by decide +kernel
theorem dX0_init_10 : decode cX0_init 10 = .ok (.iconst 0, 1) := by decide +kernel
theorem dX0_init_11 : decode cX0_init 11 = .ok (.putfield 15, 3) := by decide +kernel
theorem dX0_init_14 : decode cX0_init 14 = .ok (.aload_n 0, 1) := by decide +kernel
theorem dX0_init_15 : decode cX0_init 15 = .ok (.sipush 256, 3) := by decide +kernel
theorem dX0_init_18 : decode cX0_init 18 = .ok (.newarray .int, 2) := by decide +kernel
theorem dX0_init_20 : decode cX0_init 20 = .ok (.putfield 18, 3) := by decide +kernel
theorem dX0_init_23 : decode cX0_init 23 = .ok (.aload_n 0, 1) := by decide +kernel
theorem dX0_init_24 : decode cX0_init 24 = .ok (.sipush 256, 3) := by decide +kernel
theorem dX0_init_27 : decode cX0_init 27 = .ok (.newarray .int, 2) := by decide +kernel
theorem dX0_init_29 : decode cX0_init 29 = .ok (.putfield 22, 3) := by decide +kernel
theorem dX0_init_32 : decode cX0_init 32 = .ok (.aload_n 0, 1) := by decide +kernel
theorem dX0_init_33 : decode cX0_init 33 = .ok (.sipush 256, 3) := by decide +kernel
theorem dX0_init_36 : decode cX0_init 36 = .ok (.newarray .int, 2) := by decide +kernel
theorem dX0_init_38 : decode cX0_init 38 = .ok (.putfield 25, 3) := by decide +kernel
theorem dX0_init_41 : decode cX0_init 41 = .ok (.aload_n 0, 1) := by decide +kernel
theorem dX0_init_42 : decode cX0_init 42 = .ok (.iconst 0, 1) := by decide +kernel
theorem dX0_init_43 : decode cX0_init 43 = .ok (.putfield 28, 3) := by decide +kernel
theorem dX0_init_46 : decode cX0_init 46 = .ok (.aload_n 0, 1) := by decide +kernel
theorem dX0_init_47 : decode cX0_init 47 = .ok (.iconst 1, 1) := by decide +kernel
theorem dX0_init_48 : decode cX0_init 48 = .ok (.putfield 31, 3) := by decide +kernel
theorem dX0_init_51 : decode cX0_init 51 = .ok (.aload_n 0, 1) := by decide +kernel
theorem dX0_init_52 : decode cX0_init 52 = .ok (.new 35, 3) := by decide +kernel
theorem dX0_init_55 : decode cX0_init 55 = .ok (.dup, 1) := by decide +kernel
theorem dX0_init_56 : decode cX0_init 56 = .ok (.iload_n 1, 1) := by decide +kernel
theorem dX0_init_57 : decode cX0_init 57 = .ok (.bipush 64, 2) := by decide +kernel
theorem dX0_init_59 : decode cX0_init 59 = .ok (.imul, 1) := by decide +kernel
theorem dX0_init_60 : decode cX0_init 60 = .ok (.invokespecial 37, 3) := by decide +kernel
theorem dX0_init_63 : decode cX0_init 63 = .ok (.putfield 40, 3) := by decide +kernel
theorem dX0_init_66 : decode cX0_init 66 = .ok (.aload_n 0, 1) := by decide +kernel
theorem dX0_init_67 : decode cX0_init 67 = .ok (.iconst 0, 1) := by decide +kernel
theorem dX0_init_68 : decode cX0_init 68 = .ok (.iload_n 1, 1) := by decide +kernel
theorem dX0_init_69 : decode cX0_init 69 = .ok (.invokestatic 44, 3) := by decide +kernel
theorem dX0_init_72 : decode cX0_init 72 = .ok (.newarray .boolean, 2) := by decide +kernel
theorem dX0_init_74 : decode cX0_init 74 = .ok (.putfield 50, 3) := by decide +kernel
theorem dX0_init_77 : decode cX0_init 77 = .ok (.aload_n 0, 1) := by decide +kernel
theorem dX0_init_78 : decode cX0_init 78 = .ok (.iconst 0, 1) := by decide +kernel
theorem dX0_init_79 : decode cX0_init 79 = .ok (.iload_n 1, 1) := by decide +kernel
theorem dX0_init_80 : decode cX0_init 80 = .ok (.invokestatic 44, 3) := by decide +kernel
theorem dX0_init_83 : decode cX0_init 83 = .ok (.newarray .boolean, 2) := by decide +kernel
theorem dX0_init_85 : decode cX0_init 85 = .ok (.putfield 54, 3) := by decide +kernel
theorem dX0_init_88 : decode cX0_init 88 = .ok (.aload_n 0, 1) := by decide +kernel
theorem dX0_init_89 : decode cX0_init 89 = .ok (.aload_n 0, 1) := by decide +kernel
theorem dX0_init_90 : decode cX0_init 90 = .ok (.getfield 54, 3) := by decide +kernel
theorem dX0_init_93 : decode cX0_init 93 = .ok (.arraylength, 1) := by decide +kernel
theorem dX0_init_94 : decode cX0_init 94 = .ok (.putfield 57, 3) := by decide +kernel
theorem dX0_init_97 : decode cX0_init 97 = .ok (.return_, 1) := by decide +kernel
theorem dX0_begin_0 : decode cX0_begin 0 = .ok (.aload_n 0, 1) := by decide +kernel
theorem dX0_begin_1 : decode cX0_begin 1 = .ok (.iconst 1, 1) := by decide +kernel
theorem dX0_begin_2 : decode cX0_begin 2 = .ok (.putfield 31, 3) := by decide +kernel
theorem dX0_begin_5 : decode cX0_begin 5 = .ok (.return_, 1) := by decide +kernel
theorem dX0_has_0 : decode cX0_has 0 = .ok (.iload_n 1, 1) := by decide +kernel
theorem dX0_has_1 : decode cX0_has 1 = .ok (.ifCond .lt 16, 3) := by decide +kernel
theorem dX0_has_4 : decode cX0_has 4 = .ok (.iload_n 1, 1) := by decide +kernel
theorem dX0_has_5 : decode cX0_has 5 = .ok (.aload_n 0, 1) := by decide +kernel
theorem dX0_has_6 : decode cX0_has 6 = .ok (.getfield 54, 3) := by decide +kernel
theorem dX0_has_9 : decode cX0_has 9 = .ok (.arraylength, 1) := by decide +kernel
theorem dX0_has_10 : decode cX0_has 10 = .ok (.if_icmp .ge 7, 3) := by decide +kernel
theorem dX0_has_13 : decode cX0_has 13 = .ok (.iconst 1, 1) := by decide +kernel
theorem dX0_has_14 : decode cX0_has 14 = .ok (.goto 4, 3) := by decide +kernel
theorem dX0_has_17 : decode cX0_has 17 = .ok (.iconst 0, 1) := by decide +kernel
theorem dX0_has_18 : decode cX0_has 18 = .ok (.ireturn, 1) := by decide +kernel
theorem dX0_leastFree_0 : decode cX0_leastFree 0 = .ok (.iconst 0, 1) := by decide +kernel
theorem dX0_leastFree_1 : decode cX0_leastFree 1 = .ok (.istore_n 1, 1) := by decide +kernel
theorem dX0_leastFree_2 : decode cX0_leastFree 2 = .ok (.iload_n 1, 1) := by decide +kernel
theorem dX0_leastFree_3 : decode cX0_leastFree 3 = .ok (.aload_n 0, 1) := by decide +kernel
theorem dX0_leastFree_4 : decode cX0_leastFree 4 = .ok (.getfield 54, 3) := by decide +kernel
theorem dX0_leastFree_7 : decode cX0_leastFree 7 = .ok (.arraylength, 1) := by decide +kernel
theorem dX0_leastFree_8 : decode cX0_leastFree 8 = .ok (.if_icmp .ge 44, 3) := by decide +kernel
theorem dX0_leastFree_11 : decode cX0_leastFree 11 = .ok (.aload_n 0, 1) := by decide +kernel
theorem dX0_leastFree_12 : decode cX0_leastFree 12 = .ok (.getfield 57, 3) := by decide +kernel
theorem dX0_leastFree_15 : decode cX0_leastFree 15 = .ok (.ifCond .le 37, 3) := by decide +kernel
theorem dX0_leastFree_18 : decode cX0_leastFree 18 = .ok (.aload_n 0, 1) := by decide +kernel
theorem dX0_leastFree_19 : decode cX0_leastFree 19 = .ok (.getfield 54, 3) := by decide +kernel
theorem dX0_leastFree_22 : decode cX0_leastFree 22 = .ok (.iload_n 1, 1) := by decide +kernel
theorem dX0_leastFree_23 : decode cX0_leastFree 23 = .ok (.baload, 1) := by decide +kernel
theorem dX0_leastFree_24 : decode cX0_leastFree 24 = .ok (.ifCond .ne 22, 3) := by decide +kernel
theorem dX0_leastFree_27 : decode cX0_leastFree 27 = .ok (.aload_n 0, 1) := by decide +kernel
theorem dX0_leastFree_28 : decode cX0_leastFree 28 = .ok (.getfield 54, 3) := by decide +kernel
theorem dX0_leastFree_31 : decode cX0_leastFree 31 = .ok (.iload_n 1, 1) := by decide +kernel
theorem dX0_leastFree_32 : decode cX0_leastFree 32 = .ok (.iconst 1, 1) := by decide +kernel
theorem dX0_leastFree_33 : decode cX0_leastFree 33 = .ok (.bastore, 1) := by decide +kernel
theorem dX0_leastFree_34 : decode cX0_leastFree 34 = .ok (.aload_n 0, 1) := by decide +kernel
theorem dX0_leastFree_35 : decode cX0_leastFree 35 = .ok (.dup, 1) := by decide +kernel
theorem dX0_leastFree_36 : decode cX0_leastFree 36 = .ok (.getfield 57, 3) := by decide +kernel
theorem dX0_leastFree_39 : decode cX0_leastFree 39 = .ok (.iconst 1, 1) := by decide +kernel
theorem dX0_leastFree_40 : decode cX0_leastFree 40 = .ok (.isub, 1) := by decide +kernel
theorem dX0_leastFree_41 : decode cX0_leastFree 41 = .ok (.putfield 57, 3) := by decide +kernel
theorem dX0_leastFree_44 : decode cX0_leastFree 44 = .ok (.iload_n 1, 1) := by decide +kernel
theorem dX0_leastFree_45 : decode cX0_leastFree 45 = .ok (.ireturn, 1) := by decide +kernel
theorem dX0_leastFree_46 : decode cX0_leastFree 46 = .ok (.iinc 1 1, 3) := by decide +kernel
theorem dX0_leastFree_49 : decode cX0_leastFree 49 = .ok (.goto (-47), 3) := by decide +kernel
theorem dX0_leastFree_52 : decode cX0_leastFree 52 = .ok (.iconst (-1), 1) := by decide +kernel
theorem dX0_leastFree_53 : decode cX0_leastFree 53 = .ok (.ireturn, 1) := by decide +kernel
theorem dX0_giveBack_0 : decode cX0_giveBack 0 = .ok (.aload_n 0, 1) := by decide +kernel
theorem dX0_giveBack_1 : decode cX0_giveBack 1 = .ok (.iload_n 1, 1) := by decide +kernel
theorem dX0_giveBack_2 : decode cX0_giveBack 2 = .ok (.invokevirtual 60, 3) := by decide +kernel
theorem dX0_giveBack_5 : decode cX0_giveBack 5 = .ok (.ifCond .eq 29, 3) := by decide +kernel
theorem dX0_giveBack_8 : decode cX0_giveBack 8 = .ok (.aload_n 0, 1) := by decide +kernel
theorem dX0_giveBack_9 : decode cX0_giveBack 9 = .ok (.getfield 54, 3) := by decide +kernel
theorem dX0_giveBack_12 : decode cX0_giveBack 12 = .ok (.iload_n 1, 1) := by decide +kernel
theorem dX0_giveBack_13 : decode cX0_giveBack 13 = .ok (.baload, 1) := by decide +kernel
theorem dX0_giveBack_14 : decode cX0_giveBack 14 = .ok (.ifCond .eq 20, 3) := by decide +kernel
theorem dX0_giveBack_17 : decode cX0_giveBack 17 = .ok (.aload_n 0, 1) := by decide +kernel
theorem dX0_giveBack_18 : decode cX0_giveBack 18 = .ok (.getfield 54, 3) := by decide +kernel
theorem dX0_giveBack_21 : decode cX0_giveBack 21 = .ok (.iload_n 1, 1) := by decide +kernel
theorem dX0_giveBack_22 : decode cX0_giveBack 22 = .ok (.iconst 0, 1) := by decide +kernel
theorem dX0_giveBack_23 : decode cX0_giveBack 23 = .ok (.bastore, 1) := by decide +kernel
theorem dX0_giveBack_24 : decode cX0_giveBack 24 = .ok (.aload_n 0, 1) := by decide +kernel
theorem dX0_giveBack_25 : decode cX0_giveBack 25 = .ok (.dup, 1) := by decide +kernel
theorem dX0_giveBack_26 : decode cX0_giveBack 26 = .ok (.getfield 57, 3) := by decide +kernel
theorem dX0_giveBack_29 : decode cX0_giveBack 29 = .ok (.iconst 1, 1) := by decide +kernel
theorem dX0_giveBack_30 : decode cX0_giveBack 30 = .ok (.iadd, 1) := by decide +kernel
theorem dX0_giveBack_31 : decode cX0_giveBack 31 = .ok (.putfield 57, 3) := by decide +kernel
theorem dX0_giveBack_34 : decode cX0_giveBack 34 = .ok (.return_, 1) := by decide +kernel
theorem dX0_load_0 : decode cX0_load 0 = .ok (.aload_n 0, 1) := by decide +kernel
theorem dX0_load_1 : decode cX0_load 1 = .ok (.iload_n 1, 1) := by decide +kernel
theorem dX0_load_2 : decode cX0_load 2 = .ok (.invokevirtual 60, 3) := by decide +kernel
theorem dX0_load_5 : decode cX0_load 5 = .ok (.ifCond .eq 29, 3) := by decide +kernel
theorem dX0_load_8 : decode cX0_load 8 = .ok (.aload_n 2, 1) := by decide +kernel
theorem dX0_load_9 : decode cX0_load 9 = .ok (.iload_n 3, 1) := by decide +kernel
theorem dX0_load_10 : decode cX0_load 10 = .ok (.aload_n 0, 1) := by decide +kernel
theorem dX0_load_11 : decode cX0_load 11 = .ok (.getfield 40, 3) := by decide +kernel
theorem dX0_load_14 : decode cX0_load 14 = .ok (.iload_n 1, 1) := by decide +kernel
theorem dX0_load_15 : decode cX0_load 15 = .ok (.invokevirtual 64, 3) := by decide +kernel
theorem dX0_load_18 : decode cX0_load 18 = .ok (.aload_n 0, 1) := by decide +kernel
theorem dX0_load_19 : decode cX0_load 19 = .ok (.dup, 1) := by decide +kernel
theorem dX0_load_20 : decode cX0_load 20 = .ok (.getfield 9, 3) := by decide +kernel
theorem dX0_load_23 : decode cX0_load 23 = .ok (.iconst 1, 1) := by decide +kernel
theorem dX0_load_24 : decode cX0_load 24 = .ok (.iadd, 1) := by decide +kernel
theorem dX0_load_25 : decode cX0_load 25 = .ok (.putfield 9, 3) := by decide +kernel
theorem dX0_load_28 : decode cX0_load 28 = .ok (.aload_n 0, 1) := by decide +kernel
theorem dX0_load_29 : decode cX0_load 29 = .ok (.iconst 0, 1) := by decide +kernel
theorem dX0_load_30 : decode cX0_load 30 = .ok (.iload_n 1, 1) := by decide +kernel
theorem dX0_load_31 : decode cX0_load 31 = .ok (.invokevirtual 68, 3) := by decide +kernel
theorem dX0_load_34 : decode cX0_load 34 = .ok (.return_, 1) := by decide +kernel
theorem dX0_save_0 : decode cX0_save 0 = .ok (.aload_n 0, 1) := by decide +kernel
theorem dX0_save_1 : decode cX0_save 1 = .ok (.iload_n 1, 1) := by decide +kernel
theorem dX0_save_2 : decode cX0_save 2 = .ok (.invokevirtual 60, 3) := by decide +kernel
theorem dX0_save_5 : decode cX0_save 5 = .ok (.ifCond .eq 12, 3) := by decide +kernel
theorem dX0_save_8 : decode cX0_save 8 = .ok (.aload_n 0, 1) := by decide +kernel
theorem dX0_save_9 : decode cX0_save 9 = .ok (.getfield 50, 3) := by decide +kernel
theorem dX0_save_12 : decode cX0_save 12 = .ok (.iload_n 1, 1) := by decide +kernel
theorem dX0_save_13 : decode cX0_save 13 = .ok (.baload, 1) := by decide +kernel
theorem dX0_save_14 : decode cX0_save 14 = .ok (.ifCond .eq 5, 3) := by decide +kernel
theorem dX0_save_17 : decode cX0_save 17 = .ok (.iconst 0, 1) := by decide +kernel
theorem dX0_save_18 : decode cX0_save 18 = .ok (.ireturn, 1) := by decide +kernel
theorem dX0_save_19 : decode cX0_save 19 = .ok (.aload_n 0, 1) := by decide +kernel
theorem dX0_save_20 : decode cX0_save 20 = .ok (.getfield 40, 3) := by decide +kernel
theorem dX0_save_23 : decode cX0_save 23 = .ok (.iload_n 1, 1) := by decide +kernel
theorem dX0_save_24 : decode cX0_save 24 = .ok (.aload_n 2, 1) := by decide +kernel
theorem dX0_save_25 : decode cX0_save 25 = .ok (.iload_n 3, 1) := by decide +kernel
theorem dX0_save_26 : decode cX0_save 26 = .ok (.invokevirtual 64, 3) := by decide +kernel
theorem dX0_save_29 : decode cX0_save 29 = .ok (.aload_n 0, 1) := by decide +kernel
theorem dX0_save_30 : decode cX0_save 30 = .ok (.getfield 40, 3) := by decide +kernel
theorem dX0_save_33 : decode cX0_save 33 = .ok (.iload_n 1, 1) := by decide +kernel
theorem dX0_save_34 : decode cX0_save 34 = .ok (.bipush 64, 2) := by decide +kernel
theorem dX0_save_36 : decode cX0_save 36 = .ok (.imul, 1) := by decide +kernel
theorem dX0_save_37 : decode cX0_save 37 = .ok (.iconst 0, 1) := by decide +kernel
theorem dX0_save_38 : decode cX0_save 38 = .ok (.iload 4, 2) := by decide +kernel
theorem dX0_save_40 : decode cX0_save 40 = .ok (.invokestatic 44, 3) := by decide +kernel
theorem dX0_save_43 : decode cX0_save 43 = .ok (.iadd, 1) := by decide +kernel
theorem dX0_save_44 : decode cX0_save 44 = .ok (.iload_n 1, 1) := by decide +kernel
theorem dX0_save_45 : decode cX0_save 45 = .ok (.iconst 1, 1) := by decide +kernel
theorem dX0_save_46 : decode cX0_save 46 = .ok (.iadd, 1) := by decide +kernel
theorem dX0_save_47 : decode cX0_save 47 = .ok (.bipush 64, 2) := by decide +kernel
theorem dX0_save_49 : decode cX0_save 49 = .ok (.imul, 1) := by decide +kernel
theorem dX0_save_50 : decode cX0_save 50 = .ok (.invokevirtual 72, 3) := by decide +kernel
theorem dX0_save_53 : decode cX0_save 53 = .ok (.aload_n 0, 1) := by decide +kernel
theorem dX0_save_54 : decode cX0_save 54 = .ok (.dup, 1) := by decide +kernel
theorem dX0_save_55 : decode cX0_save 55 = .ok (.getfield 15, 3) := by decide +kernel
theorem dX0_save_58 : decode cX0_save 58 = .ok (.iconst 1, 1) := by decide +kernel
theorem dX0_save_59 : decode cX0_save 59 = .ok (.iadd, 1) := by decide +kernel
theorem dX0_save_60 : decode cX0_save 60 = .ok (.putfield 15, 3) := by decide +kernel
theorem dX0_save_63 : decode cX0_save 63 = .ok (.aload_n 0, 1) := by decide +kernel
theorem dX0_save_64 : decode cX0_save 64 = .ok (.iconst 1, 1) := by decide +kernel
theorem dX0_save_65 : decode cX0_save 65 = .ok (.iload_n 1, 1) := by decide +kernel
theorem dX0_save_66 : decode cX0_save 66 = .ok (.invokevirtual 68, 3) := by decide +kernel
theorem dX0_save_69 : decode cX0_save 69 = .ok (.iconst 1, 1) := by decide +kernel
theorem dX0_save_70 : decode cX0_save 70 = .ok (.ireturn, 1) := by decide +kernel
theorem dX0_note_0 : decode cX0_note 0 = .ok (.aload_n 0, 1) := by decide +kernel
theorem dX0_note_1 : decode cX0_note 1 = .ok (.getfield 31, 3) := by decide +kernel
theorem dX0_note_4 : decode cX0_note 4 = .ok (.ifCond .eq 13, 3) := by decide +kernel
theorem dX0_note_7 : decode cX0_note 7 = .ok (.aload_n 0, 1) := by decide +kernel
theorem dX0_note_8 : decode cX0_note 8 = .ok (.iconst 0, 1) := by decide +kernel
theorem dX0_note_9 : decode cX0_note 9 = .ok (.putfield 28, 3) := by decide +kernel
theorem dX0_note_12 : decode cX0_note 12 = .ok (.aload_n 0, 1) := by decide +kernel
theorem dX0_note_13 : decode cX0_note 13 = .ok (.iconst 0, 1) := by decide +kernel
theorem dX0_note_14 : decode cX0_note 14 = .ok (.putfield 31, 3) := by decide +kernel
theorem dX0_note_17 : decode cX0_note 17 = .ok (.aload_n 0, 1) := by decide +kernel
theorem dX0_note_18 : decode cX0_note 18 = .ok (.getfield 28, 3) := by decide +kernel
theorem dX0_note_21 : decode cX0_note 21 = .ok (.iconst 1, 1) := by decide +kernel
theorem dX0_note_22 : decode cX0_note 22 = .ok (.isub, 1) := by decide +kernel
theorem dX0_note_23 : decode cX0_note 23 = .ok (.istore_n 3, 1) := by decide +kernel
theorem dX0_note_24 : decode cX0_note 24 = .ok (.iload_n 3, 1) := by decide +kernel
theorem dX0_note_25 : decode cX0_note 25 = .ok (.ifCond .lt 43, 3) := by decide +kernel
theorem dX0_note_28 : decode cX0_note 28 = .ok (.aload_n 0, 1) := by decide +kernel
theorem dX0_note_29 : decode cX0_note 29 = .ok (.getfield 18, 3) := by decide +kernel
theorem dX0_note_32 : decode cX0_note 32 = .ok (.iload_n 3, 1) := by decide +kernel
theorem dX0_note_33 : decode cX0_note 33 = .ok (.iaload, 1) := by decide +kernel
theorem dX0_note_34 : decode cX0_note 34 = .ok (.iload_n 1, 1) := by decide +kernel
theorem dX0_note_35 : decode cX0_note 35 = .ok (.if_icmp .ne 33, 3) := by decide +kernel
theorem dX0_note_38 : decode cX0_note 38 = .ok (.aload_n 0, 1) := by decide +kernel
theorem dX0_note_39 : decode cX0_note 39 = .ok (.getfield 22, 3) := by decide +kernel
theorem dX0_note_42 : decode cX0_note 42 = .ok (.iload_n 3, 1) := by decide +kernel
theorem dX0_note_43 : decode cX0_note 43 = .ok (.iaload, 1) := by decide +kernel
theorem dX0_note_44 : decode cX0_note 44 = .ok (.aload_n 0, 1) := by decide +kernel
theorem dX0_note_45 : decode cX0_note 45 = .ok (.getfield 25, 3) := by decide +kernel
theorem dX0_note_48 : decode cX0_note 48 = .ok (.iload_n 3, 1) := by decide +kernel
theorem dX0_note_49 : decode cX0_note 49 = .ok (.iaload, 1) := by decide +kernel
theorem dX0_note_50 : decode cX0_note 50 = .ok (.iadd, 1) := by decide +kernel
theorem dX0_note_51 : decode cX0_note 51 = .ok (.iload_n 2, 1) := by decide +kernel
theorem dX0_note_52 : decode cX0_note 52 = .ok (.if_icmp .ne 16, 3) := by decide +kernel
theorem dX0_note_55 : decode cX0_note 55 = .ok (.aload_n 0, 1) := by decide +kernel
theorem dX0_note_56 : decode cX0_note 56 = .ok (.getfield 25, 3) := by decide +kernel
theorem dX0_note_59 : decode cX0_note 59 = .ok (.iload_n 3, 1) := by decide +kernel
theorem dX0_note_60 : decode cX0_note 60 = .ok (.dup2, 1) := by decide +kernel
theorem dX0_note_61 : decode cX0_note 61 = .ok (.iaload, 1) := by decide +kernel
theorem dX0_note_62 : decode cX0_note 62 = .ok (.iconst 1, 1) := by decide +kernel
theorem dX0_note_63 : decode cX0_note 63 = .ok (.iadd, 1) := by decide +kernel
theorem dX0_note_64 : decode cX0_note 64 = .ok (.iastore, 1) := by decide +kernel
theorem dX0_note_65 : decode cX0_note 65 = .ok (.goto 53, 3) := by decide +kernel
theorem dX0_note_68 : decode cX0_note 68 = .ok (.aload_n 0, 1) := by decide +kernel
theorem dX0_note_69 : decode cX0_note 69 = .ok (.getfield 28, 3) := by decide +kernel
theorem dX0_note_72 : decode cX0_note 72 = .ok (.sipush 256, 3) := by decide +kernel
theorem dX0_note_75 : decode cX0_note 75 = .ok (.if_icmp .ge 43, 3) := by decide +kernel
theorem dX0_note_78 : decode cX0_note 78 = .ok (.aload_n 0, 1) := by decide +kernel
theorem dX0_note_79 : decode cX0_note 79 = .ok (.getfield 18, 3) := by decide +kernel
theorem dX0_note_82 : decode cX0_note 82 = .ok (.aload_n 0, 1) := by decide +kernel
theorem dX0_note_83 : decode cX0_note 83 = .ok (.getfield 28, 3) := by decide +kernel
theorem dX0_note_86 : decode cX0_note 86 = .ok (.iload_n 1, 1) := by decide +kernel
theorem dX0_note_87 : decode cX0_note 87 = .ok (.iastore, 1) := by decide +kernel
theorem dX0_note_88 : decode cX0_note 88 = .ok (.aload_n 0, 1) := by decide +kernel
theorem dX0_note_89 : decode cX0_note 89 = .ok (.getfield 22, 3) := by decide +kernel
theorem dX0_note_92 : decode cX0_note 92 = .ok (.aload_n 0, 1) := by decide +kernel
theorem dX0_note_93 : decode cX0_note 93 = .ok (.getfield 28, 3) := by decide +kernel
theorem dX0_note_96 : decode cX0_note 96 = .ok (.iload_n 2, 1) := by decide +kernel
theorem dX0_note_97 : decode cX0_note 97 = .ok (.iastore, 1) := by decide +kernel
theorem dX0_note_98 : decode cX0_note 98 = .ok (.aload_n 0, 1) := by decide +kernel
theorem dX0_note_99 : decode cX0_note 99 = .ok (.getfield 25, 3) := by decide +kernel
theorem dX0_note_102 : decode cX0_note 102 = .ok (.aload_n 0, 1) := by decide +kernel
theorem dX0_note_103 : decode cX0_note 103 = .ok (.getfield 28, 3) := by decide +kernel
theorem dX0_note_106 : decode cX0_note 106 = .ok (.iconst 1, 1) := by decide +kernel
theorem dX0_note_107 : decode cX0_note 107 = .ok (.iastore, 1) := by decide +kernel
theorem dX0_note_108 : decode cX0_note 108 = .ok (.aload_n 0, 1) := by decide +kernel
theorem dX0_note_109 : decode cX0_note 109 = .ok (.dup, 1) := by decide +kernel
theorem dX0_note_110 : decode cX0_note 110 = .ok (.getfield 28, 3) := by decide +kernel
theorem dX0_note_113 : decode cX0_note 113 = .ok (.iconst 1, 1) := by decide +kernel
theorem dX0_note_114 : decode cX0_note 114 = .ok (.iadd, 1) := by decide +kernel
theorem dX0_note_115 : decode cX0_note 115 = .ok (.putfield 28, 3) := by decide +kernel
theorem dX0_note_118 : decode cX0_note 118 = .ok (.return_, 1) := by decide +kernel
theorem dX1_init_0 : decode cX1_init 0 = .ok (.aload_n 0, 1) := by decide +kernel
theorem dX1_init_1 : decode cX1_init 1 = .ok (.invokespecial 3, 3) := by decide +kernel
theorem dX1_init_4 : decode cX1_init 4 = .ok (.aload_n 0, 1) := by decide +kernel
theorem dX1_init_5 : decode cX1_init 5 = .ok (.bipush 12, 2) := by decide +kernel
theorem dX1_init_7 : decode cX1_init 7 = .ok (.newarray .int, 2) := by decide +kernel
theorem dX1_init_9 : decode cX1_init 9 = .ok (.putfield 9, 3) := by decide +kernel
theorem dX1_init_12 : decode cX1_init 12 = .ok (.aload_n 0, 1) := by decide +kernel
theorem dX1_init_13 : decode cX1_init 13 = .ok (.bipush 12, 2) := by decide +kernel
theorem dX1_init_15 : decode cX1_init 15 = .ok (.newarray .int, 2) := by decide +kernel
theorem dX1_init_17 : decode cX1_init 17 = .ok (.putfield 15, 3) := by decide +kernel
theorem dX1_init_20 : decode cX1_init 20 = .ok (.aload_n 0, 1) := by decide +kernel
theorem dX1_init_21 : decode cX1_init 21 = .ok (.bipush 12, 2) := by decide +kernel
theorem dX1_init_23 : decode cX1_init 23 = .ok (.newarray .int, 2) := by decide +kernel
theorem dX1_init_25 : decode cX1_init 25 = .ok (.putfield 18, 3) := by decide +kernel
theorem dX1_init_28 : decode cX1_init 28 = .ok (.aload_n 0, 1) := by decide +kernel
theorem dX1_init_29 : decode cX1_init 29 = .ok (.bipush 12, 2) := by decide +kernel
theorem dX1_init_31 : decode cX1_init 31 = .ok (.newarray .int, 2) := by decide +kernel
theorem dX1_init_33 : decode cX1_init 33 = .ok (.putfield 21, 3) := by decide +kernel
theorem dX1_init_36 : decode cX1_init 36 = .ok (.aload_n 0, 1) := by decide +kernel
theorem dX1_init_37 : decode cX1_init 37 = .ok (.getfield 15, 3) := by decide +kernel
theorem dX1_init_40 : decode cX1_init 40 = .ok (.iconst 1, 1) := by decide +kernel
theorem dX1_init_41 : decode cX1_init 41 = .ok (.invokestatic 24, 3) := by decide +kernel
theorem dX1_init_44 : decode cX1_init 44 = .ok (.return_, 1) := by decide +kernel
theorem dX1_reset_0 : decode cX1_reset 0 = .ok (.aload_n 0, 1) := by decide +kernel
theorem dX1_reset_1 : decode cX1_reset 1 = .ok (.getfield 15, 3) := by decide +kernel
theorem dX1_reset_4 : decode cX1_reset 4 = .ok (.iconst 1, 1) := by decide +kernel
theorem dX1_reset_5 : decode cX1_reset 5 = .ok (.invokestatic 24, 3) := by decide +kernel
theorem dX1_reset_8 : decode cX1_reset 8 = .ok (.aload_n 0, 1) := by decide +kernel
theorem dX1_reset_9 : decode cX1_reset 9 = .ok (.getfield 18, 3) := by decide +kernel
theorem dX1_reset_12 : decode cX1_reset 12 = .ok (.iconst 0, 1) := by decide +kernel
theorem dX1_reset_13 : decode cX1_reset 13 = .ok (.invokestatic 24, 3) := by decide +kernel
theorem dX1_reset_16 : decode cX1_reset 16 = .ok (.aload_n 0, 1) := by decide +kernel
theorem dX1_reset_17 : decode cX1_reset 17 = .ok (.getfield 21, 3) := by decide +kernel
theorem dX1_reset_20 : decode cX1_reset 20 = .ok (.iconst 0, 1) := by decide +kernel
theorem dX1_reset_21 : decode cX1_reset 21 = .ok (.invokestatic 24, 3) := by decide +kernel
theorem dX1_reset_24 : decode cX1_reset 24 = .ok (.return_, 1) := by decide +kernel
theorem dX1_setError_0 : decode cX1_setError 0 = .ok (.iload_n 1, 1) := by decide +kernel
theorem dX1_setError_1 : decode cX1_setError 1 = .ok (.ifCond .lt 25, 3) := by decide +kernel
theorem dX1_setError_4 : decode cX1_setError 4 = .ok (.iload_n 1, 1) := by decide +kernel
theorem dX1_setError_5 : decode cX1_setError 5 = .ok (.bipush 12, 2) := by decide +kernel
theorem dX1_setError_7 : decode cX1_setError 7 = .ok (.if_icmp .ge 19, 3) := by decide +kernel
theorem dX1_setError_10 : decode cX1_setError 10 = .ok (.aload_n 0, 1) := by decide +kernel
theorem dX1_setError_11 : decode cX1_setError 11 = .ok (.getfield 21, 3) := by decide +kernel
theorem dX1_setError_14 : decode cX1_setError 14 = .ok (.iload_n 1, 1) := by decide +kernel
theorem dX1_setError_15 : decode cX1_setError 15 = .ok (.iaload, 1) := by decide +kernel
theorem dX1_setError_16 : decode cX1_setError 16 = .ok (.ifCond .ne 10, 3) := by decide +kernel
theorem dX1_setError_19 : decode cX1_setError 19 = .ok (.aload_n 0, 1) := by decide +kernel
theorem dX1_setError_20 : decode cX1_setError 20 = .ok (.getfield 21, 3) := by decide +kernel
theorem dX1_setError_23 : decode cX1_setError 23 = .ok (.iload_n 1, 1) := by decide +kernel
theorem dX1_setError_24 : decode cX1_setError 24 = .ok (.iload_n 2, 1) := by decide +kernel
theorem dX1_setError_25 : decode cX1_setError 25 = .ok (.iastore, 1) := by decide +kernel
theorem dX1_setError_26 : decode cX1_setError 26 = .ok (.return_, 1) := by decide +kernel
theorem dX1_withError_0 : decode cX1_withError 0 = .ok (.iconst 0, 1) := by decide +kernel
theorem dX1_withError_1 : decode cX1_withError 1 = .ok (.istore_n 1, 1) := by decide +kernel
theorem dX1_withError_2 : decode cX1_withError 2 = .ok (.aload_n 0, 1) := by decide +kernel
theorem dX1_withError_3 : decode cX1_withError 3 = .ok (.getfield 21, 3) := by decide +kernel
theorem dX1_withError_6 : decode cX1_withError 6 = .ok (.astore_n 2, 1) := by decide +kernel
theorem dX1_withError_7 : decode cX1_withError 7 = .ok (.aload_n 2, 1) := by decide +kernel
theorem dX1_withError_8 : decode cX1_withError 8 = .ok (.arraylength, 1) := by decide +kernel
theorem dX1_withError_9 : decode cX1_withError 9 = .ok (.istore_n 3, 1) := by decide +kernel
theorem dX1_withError_10 : decode cX1_withError 10 = .ok (.iconst 0, 1) := by decide +kernel
theorem dX1_withError_11 : decode cX1_withError 11 = .ok (.istore 4, 2) := by decide +kernel
theorem dX1_withError_13 : decode cX1_withError 13 = .ok (.iload 4, 2) := by decide +kernel
theorem dX1_withError_15 : decode cX1_withError 15 = .ok (.iload_n 3, 1) := by decide +kernel
theorem dX1_withError_16 : decode cX1_withError 16 = .ok (.if_icmp .ge 23, 3) := by decide +kernel
theorem dX1_withError_19 : decode cX1_withError 19 = .ok (.aload_n 2, 1) := by decide +kernel
theorem dX1_withError_20 : decode cX1_withError 20 = .ok (.iload 4, 2) := by decide +kernel
theorem dX1_withError_22 : decode cX1_withError 22 = .ok (.iaload, 1) := by decide +kernel
theorem dX1_withError_23 : decode cX1_withError 23 = .ok (.istore 5, 2) := by decide +kernel
theorem dX1_withError_25 : decode cX1_withError 25 = .ok (.iload 5, 2) := by decide +kernel
theorem dX1_withError_27 : decode cX1_withError 27 = .ok (.ifCond .eq 6, 3) := by decide +kernel
theorem dX1_withError_30 : decode cX1_withError 30 = .ok (.iinc 1 1, 3) := by decide +kernel
theorem dX1_withError_33 : decode cX1_withError 33 = .ok (.iinc 4 1, 3) := by decide +kernel
theorem dX1_withError_36 : decode cX1_withError 36 = .ok (.goto (-23), 3) := by decide +kernel
theorem dX1_withError_39 : decode cX1_withError 39 = .ok (.iload_n 1, 1) := by decide +kernel
theorem dX1_withError_40 : decode cX1_withError 40 = .ok (.ireturn, 1) := by decide +kernel
theorem dX2_init_0 : decode cX2_init 0 = .ok (.aload_n 0, 1) := by decide +kernel
theorem dX2_init_1 : decode cX2_init 1 = .ok (.invokespecial 3, 3) := by decide +kernel
theorem dX2_init_4 : decode cX2_init 4 = .ok (.aload_n 0, 1) := by decide +kernel
theorem dX2_init_5 : decode cX2_init 5 = .ok (.sipush 3072, 3) := by decide +kernel
theorem dX2_init_8 : decode cX2_init 8 = .ok (.newarray .int, 2) := by decide +kernel
theorem dX2_init_10 : decode cX2_init 10 = .ok (.putfield 9, 3) := by decide +kernel
theorem dX2_init_13 : decode cX2_init 13 = .ok (.aload_n 0, 1) := by decide +kernel
theorem dX2_init_14 : decode cX2_init 14 = .ok (.iconst 0, 1) := by decide +kernel
theorem dX2_init_15 : decode cX2_init 15 = .ok (.putfield 15, 3) := by decide +kernel
theorem dX2_init_18 : decode cX2_init 18 = .ok (.aload_n 0, 1) := by decide +kernel
theorem dX2_init_19 : decode cX2_init 19 = .ok (.iconst 0, 1) := by decide +kernel
theorem dX2_init_20 : decode cX2_init 20 = .ok (.putfield 19, 3) := by decide +kernel
theorem dX2_init_23 : decode cX2_init 23 = .ok (.aload_n 0, 1) := by decide +kernel
theorem dX2_init_24 : decode cX2_init 24 = .ok (.iconst 0, 1) := by decide +kernel
theorem dX2_init_25 : decode cX2_init 25 = .ok (.iload_n 1, 1) := by decide +kernel
theorem dX2_init_26 : decode cX2_init 26 = .ok (.invokestatic 22, 3) := by decide +kernel
theorem dX2_init_29 : decode cX2_init 29 = .ok (.putfield 28, 3) := by decide +kernel
theorem dX2_init_32 : decode cX2_init 32 = .ok (.aload_n 0, 1) := by decide +kernel
theorem dX2_init_33 : decode cX2_init 33 = .ok (.new 31, 3) := by decide +kernel
theorem dX2_init_36 : decode cX2_init 36 = .ok (.dup, 1) := by decide +kernel
theorem dX2_init_37 : decode cX2_init 37 = .ok (.aload_n 0, 1) := by decide +kernel
theorem dX2_init_38 : decode cX2_init 38 = .ok (.getfield 28, 3) := by decide +kernel
theorem dX2_init_41 : decode cX2_init 41 = .ok (.bipush 64, 2) := by decide +kernel
theorem dX2_init_43 : decode cX2_init 43 = .ok (.imul, 1) := by decide +kernel
theorem dX2_init_44 : decode cX2_init 44 = .ok (.invokespecial 33, 3) := by decide +kernel
theorem dX2_init_47 : decode cX2_init 47 = .ok (.putfield 36, 3) := by decide +kernel
theorem dX2_init_50 : decode cX2_init 50 = .ok (.aload_n 0, 1) := by decide +kernel
theorem dX2_init_51 : decode cX2_init 51 = .ok (.aload_n 0, 1) := by decide +kernel
theorem dX2_init_52 : decode cX2_init 52 = .ok (.getfield 28, 3) := by decide +kernel
theorem dX2_init_55 : decode cX2_init 55 = .ok (.newarray .int, 2) := by decide +kernel
theorem dX2_init_57 : decode cX2_init 57 = .ok (.putfield 40, 3) := by decide +kernel
theorem dX2_init_60 : decode cX2_init 60 = .ok (.aload_n 0, 1) := by decide +kernel
theorem dX2_init_61 : decode cX2_init 61 = .ok (.aload_n 0, 1) := by decide +kernel
theorem dX2_init_62 : decode cX2_init 62 = .ok (.getfield 28, 3) := by decide +kernel
theorem dX2_init_65 : decode cX2_init 65 = .ok (.newarray .int, 2) := by decide +kernel
theorem dX2_init_67 : decode cX2_init 67 = .ok (.putfield 43, 3) := by decide +kernel
theorem dX2_init_70 : decode cX2_init 70 = .ok (.aload_n 0, 1) := by decide +kernel
theorem dX2_init_71 : decode cX2_init 71 = .ok (.aload_n 0, 1) := by decide +kernel
theorem dX2_init_72 : decode cX2_init 72 = .ok (.getfield 28, 3) := by decide +kernel
theorem dX2_init_75 : decode cX2_init 75 = .ok (.newarray .boolean, 2) := by decide +kernel
theorem dX2_init_77 : decode cX2_init 77 = .ok (.putfield 46, 3) := by decide +kernel
theorem dX2_init_80 : decode cX2_init 80 = .ok (.aload_n 0, 1) := by decide +kernel
theorem dX2_init_81 : decode cX2_init 81 = .ok (.aload_n 0, 1) := by decide +kernel
theorem dX2_init_82 : decode cX2_init 82 = .ok (.getfield 28, 3) := by decide +kernel
theorem dX2_init_85 : decode cX2_init 85 = .ok (.newarray .boolean, 2) := by decide +kernel
theorem dX2_init_87 : decode cX2_init 87 = .ok (.putfield 50, 3) := by decide +kernel
theorem dX2_init_90 : decode cX2_init 90 = .ok (.aload_n 0, 1) := by decide +kernel
theorem dX2_init_91 : decode cX2_init 91 = .ok (.aload_n 0, 1) := by decide +kernel
theorem dX2_init_92 : decode cX2_init 92 = .ok (.getfield 28, 3) := by decide +kernel
theorem dX2_init_95 : decode cX2_init 95 = .ok (.newarray .boolean, 2) := by decide +kernel
theorem dX2_init_97 : decode cX2_init 97 = .ok (.putfield 53, 3) := by decide +kernel
theorem dX2_init_100 : decode cX2_init 100 = .ok (.aload_n 0, 1) := by decide +kernel
theorem dX2_init_101 : decode cX2_init 101 = .ok (.new 56, 3) := by decide +kernel
theorem dX2_init_104 : decode cX2_init 104 = .ok (.dup, 1) := by decide +kernel
theorem dX2_init_105 : decode cX2_init 105 = .ok (.aload_n 0, 1) := by decide +kernel
theorem dX2_init_106 : decode cX2_init 106 = .ok (.getfield 28, 3) := by decide +kernel
theorem dX2_init_109 : decode cX2_init 109 = .ok (.invokespecial 58, 3) := by decide +kernel
theorem dX2_init_112 : decode cX2_init 112 = .ok (.putfield 59, 3) := by decide +kernel
theorem dX2_init_115 : decode cX2_init 115 = .ok (.aload_n 0, 1) := by decide +kernel
theorem dX2_init_116 : decode cX2_init 116 = .ok (.new 56, 3) := by decide +kernel
theorem dX2_init_119 : decode cX2_init 119 = .ok (.dup, 1) := by decide +kernel
theorem dX2_init_120 : decode cX2_init 120 = .ok (.aload_n 0, 1) := by decide +kernel
theorem dX2_init_121 : decode cX2_init 121 = .ok (.getfield 28, 3) := by decide +kernel
theorem dX2_init_124 : decode cX2_init 124 = .ok (.invokespecial 58, 3) := by decide +kernel
theorem dX2_init_127 : decode cX2_init 127 = .ok (.putfield 63, 3) := by decide +kernel
theorem dX2_init_130 : decode cX2_init 130 = .ok (.aload_n 0, 1) := by decide +kernel
theorem dX2_init_131 : decode cX2_init 131 = .ok (.getfield 40, 3) := by decide +kernel
theorem dX2_init_134 : decode cX2_init 134 = .ok (.iconst (-1), 1) := by decide +kernel
theorem dX2_init_135 : decode cX2_init 135 = .ok (.invokestatic 66, 3) := by decide +kernel
theorem dX2_init_138 : decode cX2_init 138 = .ok (.aload_n 0, 1) := by decide +kernel
theorem dX2_init_139 : decode cX2_init 139 = .ok (.getfield 43, 3) := by decide +kernel
theorem dX2_init_142 : decode cX2_init 142 = .ok (.iconst (-1), 1) := by decide +kernel
theorem dX2_init_143 : decode cX2_init 143 = .ok (.invokestatic 66, 3) := by decide +kernel
theorem dX2_init_146 : decode cX2_init 146 = .ok (.aload_n 0, 1) := by decide +kernel
theorem dX2_init_147 : decode cX2_init 147 = .ok (.getfield 9, 3) := by decide +kernel
theorem dX2_init_150 : decode cX2_init 150 = .ok (.iconst (-1), 1) := by decide +kernel
theorem dX2_init_151 : decode cX2_init 151 = .ok (.invokestatic 66, 3) := by decide +kernel
theorem dX2_init_154 : decode cX2_init 154 = .ok (.return_, 1) := by decide +kernel
theorem dX2_frameOf_0 : decode cX2_frameOf 0 = .ok (.iload_n 1, 1) := by decide +kernel
theorem dX2_frameOf_1 : decode cX2_frameOf 1 = .ok (.ifCond .lt 10, 3) := by decide +kernel
theorem dX2_frameOf_4 : decode cX2_frameOf 4 = .ok (.iload_n 1, 1) := by decide +kernel
theorem dX2_frameOf_5 : decode cX2_frameOf 5 = .ok (.sipush 3072, 3) := by decide +kernel
theorem dX2_frameOf_8 : decode cX2_frameOf 8 = .ok (.if_icmp .lt 7, 3) := by decide +kernel
theorem dX2_frameOf_11 : decode cX2_frameOf 11 = .ok (.iconst (-1), 1) := by decide +kernel
theorem dX2_frameOf_12 : decode cX2_frameOf 12 = .ok (.goto 9, 3) := by decide +kernel
theorem dX2_frameOf_15 : decode cX2_frameOf 15 = .ok (.aload_n 0, 1) := by decide +kernel
theorem dX2_frameOf_16 : decode cX2_frameOf 16 = .ok (.getfield 9, 3) := by decide +kernel
theorem dX2_frameOf_19 : decode cX2_frameOf 19 = .ok (.iload_n 1, 1) := by decide +kernel
theorem dX2_frameOf_20 : decode cX2_frameOf 20 = .ok (.iaload, 1) := by decide +kernel
theorem dX2_frameOf_21 : decode cX2_frameOf 21 = .ok (.ireturn, 1) := by decide +kernel
theorem dX2_spotIn_0 : decode cX2_spotIn 0 = .ok (.iload_n 1, 1) := by decide +kernel
theorem dX2_spotIn_1 : decode cX2_spotIn 1 = .ok (.ifCond .lt 11, 3) := by decide +kernel
theorem dX2_spotIn_4 : decode cX2_spotIn 4 = .ok (.iload_n 1, 1) := by decide +kernel
theorem dX2_spotIn_5 : decode cX2_spotIn 5 = .ok (.aload_n 0, 1) := by decide +kernel
theorem dX2_spotIn_6 : decode cX2_spotIn 6 = .ok (.getfield 28, 3) := by decide +kernel
theorem dX2_spotIn_9 : decode cX2_spotIn 9 = .ok (.if_icmp .lt 7, 3) := by decide +kernel
theorem dX2_spotIn_12 : decode cX2_spotIn 12 = .ok (.iconst (-1), 1) := by decide +kernel
theorem dX2_spotIn_13 : decode cX2_spotIn 13 = .ok (.goto 9, 3) := by decide +kernel
theorem dX2_spotIn_16 : decode cX2_spotIn 16 = .ok (.aload_n 0, 1) := by decide +kernel
theorem dX2_spotIn_17 : decode cX2_spotIn 17 = .ok (.getfield 40, 3) := by decide +kernel
theorem dX2_spotIn_20 : decode cX2_spotIn 20 = .ok (.iload_n 1, 1) := by decide +kernel
theorem dX2_spotIn_21 : decode cX2_spotIn 21 = .ok (.iaload, 1) := by decide +kernel
theorem dX2_spotIn_22 : decode cX2_spotIn 22 = .ok (.ireturn, 1) := by decide +kernel
theorem dX2_leastFree_0 : decode cX2_leastFree 0 = .ok (.iconst 0, 1) := by decide +kernel
theorem dX2_leastFree_1 : decode cX2_leastFree 1 = .ok (.istore_n 1, 1) := by decide +kernel
theorem dX2_leastFree_2 : decode cX2_leastFree 2 = .ok (.iload_n 1, 1) := by decide +kernel
theorem dX2_leastFree_3 : decode cX2_leastFree 3 = .ok (.aload_n 0, 1) := by decide +kernel
theorem dX2_leastFree_4 : decode cX2_leastFree 4 = .ok (.getfield 28, 3) := by decide +kernel
theorem dX2_leastFree_7 : decode cX2_leastFree 7 = .ok (.if_icmp .ge 21, 3) := by decide +kernel
theorem dX2_leastFree_10 : decode cX2_leastFree 10 = .ok (.aload_n 0, 1) := by decide +kernel
theorem dX2_leastFree_11 : decode cX2_leastFree 11 = .ok (.getfield 40, 3) := by decide +kernel
theorem dX2_leastFree_14 : decode cX2_leastFree 14 = .ok (.iload_n 1, 1) := by decide +kernel
theorem dX2_leastFree_15 : decode cX2_leastFree 15 = .ok (.iaload, 1) := by decide +kernel
theorem dX2_leastFree_16 : decode cX2_leastFree 16 = .ok (.iconst (-1), 1) := by decide +kernel
theorem dX2_leastFree_17 : decode cX2_leastFree 17 = .ok (.if_icmp .ne 5, 3) := by decide +kernel
theorem dX2_leastFree_20 : decode cX2_leastFree 20 = .ok (.iload_n 1, 1) := by decide +kernel
theorem dX2_leastFree_21 : decode cX2_leastFree 21 = .ok (.ireturn, 1) := by decide +kernel
theorem dX2_leastFree_22 : decode cX2_leastFree 22 = .ok (.iinc 1 1, 3) := by decide +kernel
theorem dX2_leastFree_25 : decode cX2_leastFree 25 = .ok (.goto (-23), 3) := by decide +kernel
theorem dX2_leastFree_28 : decode cX2_leastFree 28 = .ok (.iconst (-1), 1) := by decide +kernel
theorem dX2_leastFree_29 : decode cX2_leastFree 29 = .ok (.ireturn, 1) := by decide +kernel
theorem dX2_enter_0 : decode cX2_enter 0 = .ok (.iload_n 1, 1) := by decide +kernel
theorem dX2_enter_1 : decode cX2_enter 1 = .ok (.ifCond .lt 22, 3) := by decide +kernel
theorem dX2_enter_4 : decode cX2_enter 4 = .ok (.iload_n 1, 1) := by decide +kernel
theorem dX2_enter_5 : decode cX2_enter 5 = .ok (.aload_n 0, 1) := by decide +kernel
theorem dX2_enter_6 : decode cX2_enter 6 = .ok (.getfield 28, 3) := by decide +kernel
theorem dX2_enter_9 : decode cX2_enter 9 = .ok (.if_icmp .ge 14, 3) := by decide +kernel
theorem dX2_enter_12 : decode cX2_enter 12 = .ok (.iload_n 2, 1) := by decide +kernel
theorem dX2_enter_13 : decode cX2_enter 13 = .ok (.ifCond .lt 10, 3) := by decide +kernel
theorem dX2_enter_16 : decode cX2_enter 16 = .ok (.iload_n 2, 1) := by decide +kernel
theorem dX2_enter_17 : decode cX2_enter 17 = .ok (.sipush 3072, 3) := by decide +kernel
theorem dX2_enter_20 : decode cX2_enter 20 = .ok (.if_icmp .lt 4, 3) := by decide +kernel
theorem dX2_enter_23 : decode cX2_enter 23 = .ok (.return_, 1) := by decide +kernel
theorem dX2_enter_24 : decode cX2_enter 24 = .ok (.aload_n 0, 1) := by decide +kernel
theorem dX2_enter_25 : decode cX2_enter 25 = .ok (.getfield 40, 3) := by decide +kernel
theorem dX2_enter_28 : decode cX2_enter 28 = .ok (.iload_n 1, 1) := by decide +kernel
theorem dX2_enter_29 : decode cX2_enter 29 = .ok (.iload_n 2, 1) := by decide +kernel
theorem dX2_enter_30 : decode cX2_enter 30 = .ok (.iastore, 1) := by decide +kernel
theorem dX2_enter_31 : decode cX2_enter 31 = .ok (.aload_n 0, 1) := by decide +kernel
theorem dX2_enter_32 : decode cX2_enter 32 = .ok (.getfield 9, 3) := by decide +kernel
theorem dX2_enter_35 : decode cX2_enter 35 = .ok (.iload_n 2, 1) := by decide +kernel
theorem dX2_enter_36 : decode cX2_enter 36 = .ok (.iload_n 1, 1) := by decide +kernel
theorem dX2_enter_37 : decode cX2_enter 37 = .ok (.iastore, 1) := by decide +kernel
theorem dX2_enter_38 : decode cX2_enter 38 = .ok (.aload_n 0, 1) := by decide +kernel
theorem dX2_enter_39 : decode cX2_enter 39 = .ok (.getfield 53, 3) := by decide +kernel
theorem dX2_enter_42 : decode cX2_enter 42 = .ok (.iload_n 1, 1) := by decide +kernel
theorem dX2_enter_43 : decode cX2_enter 43 = .ok (.iload_n 3, 1) := by decide +kernel
theorem dX2_enter_44 : decode cX2_enter 44 = .ok (.bastore, 1) := by decide +kernel
theorem dX2_enter_45 : decode cX2_enter 45 = .ok (.iload_n 3, 1) := by decide +kernel
theorem dX2_enter_46 : decode cX2_enter 46 = .ok (.ifCond .eq 10, 3) := by decide +kernel
theorem dX2_enter_49 : decode cX2_enter 49 = .ok (.aload_n 0, 1) := by decide +kernel
theorem dX2_enter_50 : decode cX2_enter 50 = .ok (.getfield 59, 3) := by decide +kernel
theorem dX2_enter_53 : decode cX2_enter 53 = .ok (.goto 7, 3) := by decide +kernel
theorem dX2_enter_56 : decode cX2_enter 56 = .ok (.aload_n 0, 1) := by decide +kernel
theorem dX2_enter_57 : decode cX2_enter 57 = .ok (.getfield 63, 3) := by decide +kernel
theorem dX2_enter_60 : decode cX2_enter 60 = .ok (.astore 4, 2) := by decide +kernel
theorem dX2_enter_62 : decode cX2_enter 62 = .ok (.aload 4, 2) := by decide +kernel
theorem dX2_enter_64 : decode cX2_enter 64 = .ok (.iload_n 1, 1) := by decide +kernel
theorem dX2_enter_65 : decode cX2_enter 65 = .ok (.invokevirtual 72, 3) := by decide +kernel
theorem dX2_enter_68 : decode cX2_enter 68 = .ok (.return_, 1) := by decide +kernel
theorem dX2_leave_0 : decode cX2_leave 0 = .ok (.aload_n 0, 1) := by decide +kernel
theorem dX2_leave_1 : decode cX2_leave 1 = .ok (.iload_n 1, 1) := by decide +kernel
theorem dX2_leave_2 : decode cX2_leave 2 = .ok (.invokevirtual 75, 3) := by decide +kernel
theorem dX2_leave_5 : decode cX2_leave 5 = .ok (.istore_n 2, 1) := by decide +kernel
theorem dX2_leave_6 : decode cX2_leave 6 = .ok (.iload_n 2, 1) := by decide +kernel
theorem dX2_leave_7 : decode cX2_leave 7 = .ok (.iconst (-1), 1) := by decide +kernel
theorem dX2_leave_8 : decode cX2_leave 8 = .ok (.if_icmp .ne 4, 3) := by decide +kernel
theorem dX2_leave_11 : decode cX2_leave 11 = .ok (.return_, 1) := by decide +kernel
theorem dX2_leave_12 : decode cX2_leave 12 = .ok (.aload_n 0, 1) := by decide +kernel
theorem dX2_leave_13 : decode cX2_leave 13 = .ok (.iload_n 1, 1) := by decide +kernel
theorem dX2_leave_14 : decode cX2_leave 14 = .ok (.invokevirtual 79, 3) := by decide +kernel
theorem dX2_leave_17 : decode cX2_leave 17 = .ok (.aload_n 0, 1) := by decide +kernel
theorem dX2_leave_18 : decode cX2_leave 18 = .ok (.iload_n 1, 1) := by decide +kernel
theorem dX2_leave_19 : decode cX2_leave 19 = .ok (.iconst 0, 1) := by decide +kernel
theorem dX2_leave_20 : decode cX2_leave 20 = .ok (.invokevirtual 82, 3) := by decide +kernel
theorem dX2_leave_23 : decode cX2_leave 23 = .ok (.aload_n 0, 1) := by decide +kernel
theorem dX2_leave_24 : decode cX2_leave 24 = .ok (.getfield 53, 3) := by decide +kernel
theorem dX2_leave_27 : decode cX2_leave 27 = .ok (.iload_n 1, 1) := by decide +kernel
theorem dX2_leave_28 : decode cX2_leave 28 = .ok (.baload, 1) := by decide +kernel
theorem dX2_leave_29 : decode cX2_leave 29 = .ok (.ifCond .eq 10, 3) := by decide +kernel
theorem dX2_leave_32 : decode cX2_leave 32 = .ok (.aload_n 0, 1) := by decide +kernel
theorem dX2_leave_33 : decode cX2_leave 33 = .ok (.getfield 59, 3) := by decide +kernel
theorem dX2_leave_36 : decode cX2_leave 36 = .ok (.goto 7, 3) := by decide +kernel
theorem dX2_leave_39 : decode cX2_leave 39 = .ok (.aload_n 0, 1) := by decide +kernel
theorem dX2_leave_40 : decode cX2_leave 40 = .ok (.getfield 63, 3) := by decide +kernel
theorem dX2_leave_43 : decode cX2_leave 43 = .ok (.astore_n 3, 1) := by decide +kernel
theorem dX2_leave_44 : decode cX2_leave 44 = .ok (.aload_n 3, 1) := by decide +kernel
theorem dX2_leave_45 : decode cX2_leave 45 = .ok (.iload_n 1, 1) := by decide +kernel
theorem dX2_leave_46 : decode cX2_leave 46 = .ok (.invokevirtual 86, 3) := by decide +kernel
theorem dX2_leave_49 : decode cX2_leave 49 = .ok (.aload_n 0, 1) := by decide +kernel
theorem dX2_leave_50 : decode cX2_leave 50 = .ok (.getfield 46, 3) := by decide +kernel
theorem dX2_leave_53 : decode cX2_leave 53 = .ok (.iload_n 1, 1) := by decide +kernel
theorem dX2_leave_54 : decode cX2_leave 54 = .ok (.iconst 0, 1) := by decide +kernel
theorem dX2_leave_55 : decode cX2_leave 55 = .ok (.bastore, 1) := by decide +kernel
theorem dX2_leave_56 : decode cX2_leave 56 = .ok (.aload_n 0, 1) := by decide +kernel
theorem dX2_leave_57 : decode cX2_leave 57 = .ok (.getfield 53, 3) := by decide +kernel
theorem dX2_leave_60 : decode cX2_leave 60 = .ok (.iload_n 1, 1) := by decide +kernel
theorem dX2_leave_61 : decode cX2_leave 61 = .ok (.iconst 0, 1) := by decide +kernel
theorem dX2_leave_62 : decode cX2_leave 62 = .ok (.bastore, 1) := by decide +kernel
theorem dX2_leave_63 : decode cX2_leave 63 = .ok (.aload_n 0, 1) := by decide +kernel
theorem dX2_leave_64 : decode cX2_leave 64 = .ok (.getfield 9, 3) := by decide +kernel
theorem dX2_leave_67 : decode cX2_leave 67 = .ok (.iload_n 2, 1) := by decide +kernel
theorem dX2_leave_68 : decode cX2_leave 68 = .ok (.iconst (-1), 1) := by decide +kernel
theorem dX2_leave_69 : decode cX2_leave 69 = .ok (.iastore, 1) := by decide +kernel
theorem dX2_leave_70 : decode cX2_leave 70 = .ok (.aload_n 0, 1) := by decide +kernel
theorem dX2_leave_71 : decode cX2_leave 71 = .ok (.getfield 40, 3) := by decide +kernel
theorem dX2_leave_74 : decode cX2_leave 74 = .ok (.iload_n 1, 1) := by decide +kernel
theorem dX2_leave_75 : decode cX2_leave 75 = .ok (.iconst (-1), 1) := by decide +kernel
theorem dX2_leave_76 : decode cX2_leave 76 = .ok (.iastore, 1) := by decide +kernel
theorem dX2_leave_77 : decode cX2_leave 77 = .ok (.return_, 1) := by decide +kernel
theorem dX2_toFront_0 : decode cX2_toFront 0 = .ok (.iload_n 1, 1) := by decide +kernel
theorem dX2_toFront_1 : decode cX2_toFront 1 = .ok (.ifCond .lt 11, 3) := by decide +kernel
theorem dX2_toFront_4 : decode cX2_toFront 4 = .ok (.iload_n 1, 1) := by decide +kernel
theorem dX2_toFront_5 : decode cX2_toFront 5 = .ok (.aload_n 0, 1) := by decide +kernel
theorem dX2_toFront_6 : decode cX2_toFront 6 = .ok (.getfield 28, 3) := by decide +kernel
theorem dX2_toFront_9 : decode cX2_toFront 9 = .ok (.if_icmp .lt 4, 3) := by decide +kernel
theorem dX2_toFront_12 : decode cX2_toFront 12 = .ok (.return_, 1) := by decide +kernel
theorem dX2_toFront_13 : decode cX2_toFront 13 = .ok (.aload_n 0, 1) := by decide +kernel
theorem dX2_toFront_14 : decode cX2_toFront 14 = .ok (.getfield 53, 3) := by decide +kernel
theorem dX2_toFront_17 : decode cX2_toFront 17 = .ok (.iload_n 1, 1) := by decide +kernel
theorem dX2_toFront_18 : decode cX2_toFront 18 = .ok (.baload, 1) := by decide +kernel
theorem dX2_toFront_19 : decode cX2_toFront 19 = .ok (.ifCond .eq 10, 3) := by decide +kernel
theorem dX2_toFront_22 : decode cX2_toFront 22 = .ok (.aload_n 0, 1) := by decide +kernel
theorem dX2_toFront_23 : decode cX2_toFront 23 = .ok (.getfield 59, 3) := by decide +kernel
theorem dX2_toFront_26 : decode cX2_toFront 26 = .ok (.goto 7, 3) := by decide +kernel
theorem dX2_toFront_29 : decode cX2_toFront 29 = .ok (.aload_n 0, 1) := by decide +kernel
theorem dX2_toFront_30 : decode cX2_toFront 30 = .ok (.getfield 63, 3) := by decide +kernel
theorem dX2_toFront_33 : decode cX2_toFront 33 = .ok (.astore_n 3, 1) := by decide +kernel
theorem dX2_toFront_34 : decode cX2_toFront 34 = .ok (.iload_n 2, 1) := by decide +kernel
theorem dX2_toFront_35 : decode cX2_toFront 35 = .ok (.ifCond .eq 10, 3) := by decide +kernel
theorem dX2_toFront_38 : decode cX2_toFront 38 = .ok (.aload_n 0, 1) := by decide +kernel
theorem dX2_toFront_39 : decode cX2_toFront 39 = .ok (.getfield 59, 3) := by decide +kernel
theorem dX2_toFront_42 : decode cX2_toFront 42 = .ok (.goto 7, 3) := by decide +kernel
theorem dX2_toFront_45 : decode cX2_toFront 45 = .ok (.aload_n 0, 1) := by decide +kernel
theorem dX2_toFront_46 : decode cX2_toFront 46 = .ok (.getfield 63, 3) := by decide +kernel
theorem dX2_toFront_49 : decode cX2_toFront 49 = .ok (.astore 4, 2) := by decide +kernel
theorem dX2_toFront_51 : decode cX2_toFront 51 = .ok (.aload_n 3, 1) := by decide +kernel
theorem dX2_toFront_52 : decode cX2_toFront 52 = .ok (.iload_n 1, 1) := by decide +kernel
theorem dX2_toFront_53 : decode cX2_toFront 53 = .ok (.invokevirtual 86, 3) := by decide +kernel
theorem dX2_toFront_56 : decode cX2_toFront 56 = .ok (.aload 4, 2) := by decide +kernel
theorem dX2_toFront_58 : decode cX2_toFront 58 = .ok (.iload_n 1, 1) := by decide +kernel
theorem dX2_toFront_59 : decode cX2_toFront 59 = .ok (.invokevirtual 72, 3) := by decide +kernel
theorem dX2_toFront_62 : decode cX2_toFront 62 = .ok (.aload_n 0, 1) := by decide +kernel
theorem dX2_toFront_63 : decode cX2_toFront 63 = .ok (.getfield 53, 3) := by decide +kernel
theorem dX2_toFront_66 : decode cX2_toFront 66 = .ok (.iload_n 1, 1) := by decide +kernel
theorem dX2_toFront_67 : decode cX2_toFront 67 = .ok (.iload_n 2, 1) := by decide +kernel
theorem dX2_toFront_68 : decode cX2_toFront 68 = .ok (.bastore, 1) := by decide +kernel
theorem dX2_toFront_69 : decode cX2_toFront 69 = .ok (.return_, 1) := by decide +kernel
theorem dX2_seeAgain_0 : decode cX2_seeAgain 0 = .ok (.iload_n 1, 1) := by decide +kernel
theorem dX2_seeAgain_1 : decode cX2_seeAgain 1 = .ok (.ifCond .lt 11, 3) := by decide +kernel
theorem dX2_seeAgain_4 : decode cX2_seeAgain 4 = .ok (.iload_n 1, 1) := by decide +kernel
theorem dX2_seeAgain_5 : decode cX2_seeAgain 5 = .ok (.aload_n 0, 1) := by decide +kernel
theorem dX2_seeAgain_6 : decode cX2_seeAgain 6 = .ok (.getfield 28, 3) := by decide +kernel
theorem dX2_seeAgain_9 : decode cX2_seeAgain 9 = .ok (.if_icmp .lt 4, 3) := by decide +kernel
theorem dX2_seeAgain_12 : decode cX2_seeAgain 12 = .ok (.return_, 1) := by decide +kernel
theorem dX2_seeAgain_13 : decode cX2_seeAgain 13 = .ok (.aload_n 0, 1) := by decide +kernel
theorem dX2_seeAgain_14 : decode cX2_seeAgain 14 = .ok (.getfield 46, 3) := by decide +kernel
theorem dX2_seeAgain_17 : decode cX2_seeAgain 17 = .ok (.iload_n 1, 1) := by decide +kernel
theorem dX2_seeAgain_18 : decode cX2_seeAgain 18 = .ok (.baload, 1) := by decide +kernel
theorem dX2_seeAgain_19 : decode cX2_seeAgain 19 = .ok (.ifCond .ne 13, 3) := by decide +kernel
theorem dX2_seeAgain_22 : decode cX2_seeAgain 22 = .ok (.aload_n 0, 1) := by decide +kernel
theorem dX2_seeAgain_23 : decode cX2_seeAgain 23 = .ok (.getfield 46, 3) := by decide +kernel
theorem dX2_seeAgain_26 : decode cX2_seeAgain 26 = .ok (.iload_n 1, 1) := by decide +kernel
theorem dX2_seeAgain_27 : decode cX2_seeAgain 27 = .ok (.iconst 1, 1) := by decide +kernel
theorem dX2_seeAgain_28 : decode cX2_seeAgain 28 = .ok (.bastore, 1) := by decide +kernel
theorem dX2_seeAgain_29 : decode cX2_seeAgain 29 = .ok (.goto 25, 3) := by decide +kernel
theorem dX2_seeAgain_32 : decode cX2_seeAgain 32 = .ok (.aload_n 0, 1) := by decide +kernel
theorem dX2_seeAgain_33 : decode cX2_seeAgain 33 = .ok (.getfield 53, 3) := by decide +kernel
theorem dX2_seeAgain_36 : decode cX2_seeAgain 36 = .ok (.iload_n 1, 1) := by decide +kernel
theorem dX2_seeAgain_37 : decode cX2_seeAgain 37 = .ok (.baload, 1) := by decide +kernel
theorem dX2_seeAgain_38 : decode cX2_seeAgain 38 = .ok (.ifCond .ne 16, 3) := by decide +kernel
theorem dX2_seeAgain_41 : decode cX2_seeAgain 41 = .ok (.aload_n 0, 1) := by decide +kernel
theorem dX2_seeAgain_42 : decode cX2_seeAgain 42 = .ok (.getfield 46, 3) := by decide +kernel
theorem dX2_seeAgain_45 : decode cX2_seeAgain 45 = .ok (.iload_n 1, 1) := by decide +kernel
theorem dX2_seeAgain_46 : decode cX2_seeAgain 46 = .ok (.iconst 0, 1) := by decide +kernel
theorem dX2_seeAgain_47 : decode cX2_seeAgain 47 = .ok (.bastore, 1) := by decide +kernel
theorem dX2_seeAgain_48 : decode cX2_seeAgain 48 = .ok (.aload_n 0, 1) := by decide +kernel
theorem dX2_seeAgain_49 : decode cX2_seeAgain 49 = .ok (.iload_n 1, 1) := by decide +kernel
theorem dX2_seeAgain_50 : decode cX2_seeAgain 50 = .ok (.iconst 1, 1) := by decide +kernel
theorem dX2_seeAgain_51 : decode cX2_seeAgain 51 = .ok (.invokevirtual 89, 3) := by decide +kernel
theorem dX2_seeAgain_54 : decode cX2_seeAgain 54 = .ok (.return_, 1) := by decide +kernel
theorem dX2_balance_0 : decode cX2_balance 0 = .ok (.iconst 0, 1) := by decide +kernel
theorem dX2_balance_1 : decode cX2_balance 1 = .ok (.istore_n 1, 1) := by decide +kernel
theorem dX2_balance_2 : decode cX2_balance 2 = .ok (.iload_n 1, 1) := by decide +kernel
theorem dX2_balance_3 : decode cX2_balance 3 = .ok (.iconst 2, 1) := by decide +kernel
theorem dX2_balance_4 : decode cX2_balance 4 = .ok (.aload_n 0, 1) := by decide +kernel
theorem dX2_balance_5 : decode cX2_balance 5 = .ok (.getfield 28, 3) := by decide +kernel
theorem dX2_balance_8 : decode cX2_balance 8 = .ok (.imul, 1) := by decide +kernel
theorem dX2_balance_9 : decode cX2_balance 9 = .ok (.if_icmp .ge 58, 3) := by decide +kernel
theorem dX2_balance_12 : decode cX2_balance 12 = .ok (.aload_n 0, 1) := by decide +kernel
theorem dX2_balance_13 : decode cX2_balance 13 = .ok (.getfield 59, 3) := by decide +kernel
theorem dX2_balance_16 : decode cX2_balance 16 = .ok (.getfield 92, 3) := by decide +kernel
theorem dX2_balance_19 : decode cX2_balance 19 = .ok (.aload_n 0, 1) := by decide +kernel
theorem dX2_balance_20 : decode cX2_balance 20 = .ok (.getfield 63, 3) := by decide +kernel
theorem dX2_balance_23 : decode cX2_balance 23 = .ok (.getfield 92, 3) := by decide +kernel
theorem dX2_balance_26 : decode cX2_balance 26 = .ok (.if_icmp .le 41, 3) := by decide +kernel
theorem dX2_balance_29 : decode cX2_balance 29 = .ok (.aload_n 0, 1) := by decide +kernel
theorem dX2_balance_30 : decode cX2_balance 30 = .ok (.getfield 59, 3) := by decide +kernel
theorem dX2_balance_33 : decode cX2_balance 33 = .ok (.invokevirtual 95, 3) := by decide +kernel
theorem dX2_balance_36 : decode cX2_balance 36 = .ok (.istore_n 2, 1) := by decide +kernel
theorem dX2_balance_37 : decode cX2_balance 37 = .ok (.iload_n 2, 1) := by decide +kernel
theorem dX2_balance_38 : decode cX2_balance 38 = .ok (.iconst (-1), 1) := by decide +kernel
theorem dX2_balance_39 : decode cX2_balance 39 = .ok (.if_icmp .ne 4, 3) := by decide +kernel
theorem dX2_balance_42 : decode cX2_balance 42 = .ok (.return_, 1) := by decide +kernel
theorem dX2_balance_43 : decode cX2_balance 43 = .ok (.aload_n 0, 1) := by decide +kernel
theorem dX2_balance_44 : decode cX2_balance 44 = .ok (.iload_n 2, 1) := by decide +kernel
theorem dX2_balance_45 : decode cX2_balance 45 = .ok (.aload_n 0, 1) := by decide +kernel
theorem dX2_balance_46 : decode cX2_balance 46 = .ok (.getfield 46, 3) := by decide +kernel
theorem dX2_balance_49 : decode cX2_balance 49 = .ok (.iload_n 2, 1) := by decide +kernel
theorem dX2_balance_50 : decode cX2_balance 50 = .ok (.baload, 1) := by decide +kernel
theorem dX2_balance_51 : decode cX2_balance 51 = .ok (.invokevirtual 89, 3) := by decide +kernel
theorem dX2_balance_54 : decode cX2_balance 54 = .ok (.aload_n 0, 1) := by decide +kernel
theorem dX2_balance_55 : decode cX2_balance 55 = .ok (.getfield 46, 3) := by decide +kernel
theorem dX2_balance_58 : decode cX2_balance 58 = .ok (.iload_n 2, 1) := by decide +kernel
theorem dX2_balance_59 : decode cX2_balance 59 = .ok (.iconst 0, 1) := by decide +kernel
theorem dX2_balance_60 : decode cX2_balance 60 = .ok (.bastore, 1) := by decide +kernel
theorem dX2_balance_61 : decode cX2_balance 61 = .ok (.iinc 1 1, 3) := by decide +kernel
theorem dX2_balance_64 : decode cX2_balance 64 = .ok (.goto (-62), 3) := by decide +kernel
theorem dX2_balance_67 : decode cX2_balance 67 = .ok (.return_, 1) := by decide +kernel
theorem dX2_placeOf_0 : decode cX2_placeOf 0 = .ok (.iload_n 1, 1) := by decide +kernel
theorem dX2_placeOf_1 : decode cX2_placeOf 1 = .ok (.ifCond .lt 11, 3) := by decide +kernel
theorem dX2_placeOf_4 : decode cX2_placeOf 4 = .ok (.iload_n 1, 1) := by decide +kernel
theorem dX2_placeOf_5 : decode cX2_placeOf 5 = .ok (.aload_n 0, 1) := by decide +kernel
theorem dX2_placeOf_6 : decode cX2_placeOf 6 = .ok (.getfield 28, 3) := by decide +kernel
theorem dX2_placeOf_9 : decode cX2_placeOf 9 = .ok (.if_icmp .lt 5, 3) := by decide +kernel
theorem dX2_placeOf_12 : decode cX2_placeOf 12 = .ok (.iconst (-1), 1) := by decide +kernel
theorem dX2_placeOf_13 : decode cX2_placeOf 13 = .ok (.ireturn, 1) := by decide +kernel
theorem dX2_placeOf_14 : decode cX2_placeOf 14 = .ok (.aload_n 0, 1) := by decide +kernel
theorem dX2_placeOf_15 : decode cX2_placeOf 15 = .ok (.getfield 53, 3) := by decide +kernel
theorem dX2_placeOf_18 : decode cX2_placeOf 18 = .ok (.iload_n 1, 1) := by decide +kernel
theorem dX2_placeOf_19 : decode cX2_placeOf 19 = .ok (.baload, 1) := by decide +kernel
theorem dX2_placeOf_20 : decode cX2_placeOf 20 = .ok (.ifCond .eq 14, 3) := by decide +kernel
theorem dX2_placeOf_23 : decode cX2_placeOf 23 = .ok (.aload_n 0, 1) := by decide +kernel
theorem dX2_placeOf_24 : decode cX2_placeOf 24 = .ok (.getfield 59, 3) := by decide +kernel
theorem dX2_placeOf_27 : decode cX2_placeOf 27 = .ok (.iload_n 1, 1) := by decide +kernel
theorem dX2_placeOf_28 : decode cX2_placeOf 28 = .ok (.invokevirtual 99, 3) := by decide +kernel
theorem dX2_placeOf_31 : decode cX2_placeOf 31 = .ok (.goto 11, 3) := by decide +kernel
theorem dX2_placeOf_34 : decode cX2_placeOf 34 = .ok (.aload_n 0, 1) := by decide +kernel
theorem dX2_placeOf_35 : decode cX2_placeOf 35 = .ok (.getfield 63, 3) := by decide +kernel
theorem dX2_placeOf_38 : decode cX2_placeOf 38 = .ok (.iload_n 1, 1) := by decide +kernel
theorem dX2_placeOf_39 : decode cX2_placeOf 39 = .ok (.invokevirtual 99, 3) := by decide +kernel
theorem dX2_placeOf_42 : decode cX2_placeOf 42 = .ok (.ireturn, 1) := by decide +kernel
theorem dX2_isDirty_0 : decode cX2_isDirty 0 = .ok (.iload_n 1, 1) := by decide +kernel
theorem dX2_isDirty_1 : decode cX2_isDirty 1 = .ok (.ifCond .lt 25, 3) := by decide +kernel
theorem dX2_isDirty_4 : decode cX2_isDirty 4 = .ok (.iload_n 1, 1) := by decide +kernel
theorem dX2_isDirty_5 : decode cX2_isDirty 5 = .ok (.aload_n 0, 1) := by decide +kernel
theorem dX2_isDirty_6 : decode cX2_isDirty 6 = .ok (.getfield 28, 3) := by decide +kernel
theorem dX2_isDirty_9 : decode cX2_isDirty 9 = .ok (.if_icmp .ge 17, 3) := by decide +kernel
theorem dX2_isDirty_12 : decode cX2_isDirty 12 = .ok (.aload_n 0, 1) := by decide +kernel
theorem dX2_isDirty_13 : decode cX2_isDirty 13 = .ok (.getfield 43, 3) := by decide +kernel
theorem dX2_isDirty_16 : decode cX2_isDirty 16 = .ok (.iload_n 1, 1) := by decide +kernel
theorem dX2_isDirty_17 : decode cX2_isDirty 17 = .ok (.iaload, 1) := by decide +kernel
theorem dX2_isDirty_18 : decode cX2_isDirty 18 = .ok (.iconst (-1), 1) := by decide +kernel
theorem dX2_isDirty_19 : decode cX2_isDirty 19 = .ok (.if_icmp .eq 7, 3) := by decide +kernel
theorem dX2_isDirty_22 : decode cX2_isDirty 22 = .ok (.iconst 1, 1) := by decide +kernel
theorem dX2_isDirty_23 : decode cX2_isDirty 23 = .ok (.goto 4, 3) := by decide +kernel
theorem dX2_isDirty_26 : decode cX2_isDirty 26 = .ok (.iconst 0, 1) := by decide +kernel
theorem dX2_isDirty_27 : decode cX2_isDirty 27 = .ok (.ireturn, 1) := by decide +kernel
theorem dX2_soil_0 : decode cX2_soil 0 = .ok (.iload_n 1, 1) := by decide +kernel
theorem dX2_soil_1 : decode cX2_soil 1 = .ok (.ifCond .lt 38, 3) := by decide +kernel
theorem dX2_soil_4 : decode cX2_soil 4 = .ok (.iload_n 1, 1) := by decide +kernel
theorem dX2_soil_5 : decode cX2_soil 5 = .ok (.aload_n 0, 1) := by decide +kernel
theorem dX2_soil_6 : decode cX2_soil 6 = .ok (.getfield 28, 3) := by decide +kernel
theorem dX2_soil_9 : decode cX2_soil 9 = .ok (.if_icmp .ge 30, 3) := by decide +kernel
theorem dX2_soil_12 : decode cX2_soil 12 = .ok (.aload_n 0, 1) := by decide +kernel
theorem dX2_soil_13 : decode cX2_soil 13 = .ok (.getfield 43, 3) := by decide +kernel
theorem dX2_soil_16 : decode cX2_soil 16 = .ok (.iload_n 1, 1) := by decide +kernel
theorem dX2_soil_17 : decode cX2_soil 17 = .ok (.iaload, 1) := by decide +kernel
theorem dX2_soil_18 : decode cX2_soil 18 = .ok (.iconst (-1), 1) := by decide +kernel
theorem dX2_soil_19 : decode cX2_soil 19 = .ok (.if_icmp .ne 20, 3) := by decide +kernel
theorem dX2_soil_22 : decode cX2_soil 22 = .ok (.aload_n 0, 1) := by decide +kernel
theorem dX2_soil_23 : decode cX2_soil 23 = .ok (.getfield 43, 3) := by decide +kernel
theorem dX2_soil_26 : decode cX2_soil 26 = .ok (.iload_n 1, 1) := by decide +kernel
theorem dX2_soil_27 : decode cX2_soil 27 = .ok (.iload_n 2, 1) := by decide +kernel
theorem dX2_soil_28 : decode cX2_soil 28 = .ok (.iastore, 1) := by decide +kernel
theorem dX2_soil_29 : decode cX2_soil 29 = .ok (.aload_n 0, 1) := by decide +kernel
theorem dX2_soil_30 : decode cX2_soil 30 = .ok (.dup, 1) := by decide +kernel
theorem dX2_soil_31 : decode cX2_soil 31 = .ok (.getfield 15, 3) := by decide +kernel
theorem dX2_soil_34 : decode cX2_soil 34 = .ok (.iconst 1, 1) := by decide +kernel
theorem dX2_soil_35 : decode cX2_soil 35 = .ok (.iadd, 1) := by decide +kernel
theorem dX2_soil_36 : decode cX2_soil 36 = .ok (.putfield 15, 3) := by decide +kernel
theorem dX2_soil_39 : decode cX2_soil 39 = .ok (.return_, 1) := by decide +kernel
theorem dX2_clean_0 : decode cX2_clean 0 = .ok (.aload_n 0, 1) := by decide +kernel
theorem dX2_clean_1 : decode cX2_clean 1 = .ok (.iload_n 1, 1) := by decide +kernel
theorem dX2_clean_2 : decode cX2_clean 2 = .ok (.invokevirtual 102, 3) := by decide +kernel
theorem dX2_clean_5 : decode cX2_clean 5 = .ok (.ifCond .eq 20, 3) := by decide +kernel
theorem dX2_clean_8 : decode cX2_clean 8 = .ok (.aload_n 0, 1) := by decide +kernel
theorem dX2_clean_9 : decode cX2_clean 9 = .ok (.getfield 43, 3) := by decide +kernel
theorem dX2_clean_12 : decode cX2_clean 12 = .ok (.iload_n 1, 1) := by decide +kernel
theorem dX2_clean_13 : decode cX2_clean 13 = .ok (.iconst (-1), 1) := by decide +kernel
theorem dX2_clean_14 : decode cX2_clean 14 = .ok (.iastore, 1) := by decide +kernel
theorem dX2_clean_15 : decode cX2_clean 15 = .ok (.aload_n 0, 1) := by decide +kernel
theorem dX2_clean_16 : decode cX2_clean 16 = .ok (.dup, 1) := by decide +kernel
theorem dX2_clean_17 : decode cX2_clean 17 = .ok (.getfield 15, 3) := by decide +kernel
theorem dX2_clean_20 : decode cX2_clean 20 = .ok (.iconst 1, 1) := by decide +kernel
theorem dX2_clean_21 : decode cX2_clean 21 = .ok (.isub, 1) := by decide +kernel
theorem dX2_clean_22 : decode cX2_clean 22 = .ok (.putfield 15, 3) := by decide +kernel
theorem dX2_clean_25 : decode cX2_clean 25 = .ok (.return_, 1) := by decide +kernel
theorem dX2_setPinned_0 : decode cX2_setPinned 0 = .ok (.iload_n 1, 1) := by decide +kernel
theorem dX2_setPinned_1 : decode cX2_setPinned 1 = .ok (.ifCond .lt 46, 3) := by decide +kernel
theorem dX2_setPinned_4 : decode cX2_setPinned 4 = .ok (.iload_n 1, 1) := by decide +kernel
theorem dX2_setPinned_5 : decode cX2_setPinned 5 = .ok (.aload_n 0, 1) := by decide +kernel
theorem dX2_setPinned_6 : decode cX2_setPinned 6 = .ok (.getfield 28, 3) := by decide +kernel
theorem dX2_setPinned_9 : decode cX2_setPinned 9 = .ok (.if_icmp .ge 38, 3) := by decide +kernel
theorem dX2_setPinned_12 : decode cX2_setPinned 12 = .ok (.aload_n 0, 1) := by decide +kernel
theorem dX2_setPinned_13 : decode cX2_setPinned 13 = .ok (.getfield 50, 3) := by decide +kernel
theorem dX2_setPinned_16 : decode cX2_setPinned 16 = .ok (.iload_n 1, 1) := by decide +kernel
theorem dX2_setPinned_17 : decode cX2_setPinned 17 = .ok (.baload, 1) := by decide +kernel
theorem dX2_setPinned_18 : decode cX2_setPinned 18 = .ok (.iload_n 2, 1) := by decide +kernel
theorem dX2_setPinned_19 : decode cX2_setPinned 19 = .ok (.if_icmp .eq 28, 3) := by decide +kernel
theorem dX2_setPinned_22 : decode cX2_setPinned 22 = .ok (.aload_n 0, 1) := by decide +kernel
theorem dX2_setPinned_23 : decode cX2_setPinned 23 = .ok (.getfield 50, 3) := by decide +kernel
theorem dX2_setPinned_26 : decode cX2_setPinned 26 = .ok (.iload_n 1, 1) := by decide +kernel
theorem dX2_setPinned_27 : decode cX2_setPinned 27 = .ok (.iload_n 2, 1) := by decide +kernel
theorem dX2_setPinned_28 : decode cX2_setPinned 28 = .ok (.bastore, 1) := by decide +kernel
theorem dX2_setPinned_29 : decode cX2_setPinned 29 = .ok (.aload_n 0, 1) := by decide +kernel
theorem dX2_setPinned_30 : decode cX2_setPinned 30 = .ok (.dup, 1) := by decide +kernel
theorem dX2_setPinned_31 : decode cX2_setPinned 31 = .ok (.getfield 19, 3) := by decide +kernel
theorem dX2_setPinned_34 : decode cX2_setPinned 34 = .ok (.iload_n 2, 1) := by decide +kernel
theorem dX2_setPinned_35 : decode cX2_setPinned 35 = .ok (.ifCond .eq 7, 3) := by decide +kernel
theorem dX2_setPinned_38 : decode cX2_setPinned 38 = .ok (.iconst 1, 1) := by decide +kernel
theorem dX2_setPinned_39 : decode cX2_setPinned 39 = .ok (.goto 4, 3) := by decide +kernel
theorem dX2_setPinned_42 : decode cX2_setPinned 42 = .ok (.iconst (-1), 1) := by decide +kernel
theorem dX2_setPinned_43 : decode cX2_setPinned 43 = .ok (.iadd, 1) := by decide +kernel
theorem dX2_setPinned_44 : decode cX2_setPinned 44 = .ok (.putfield 19, 3) := by decide +kernel
theorem dX2_setPinned_47 : decode cX2_setPinned 47 = .ok (.return_, 1) := by decide +kernel
theorem dX2_ageKey_0 : decode cX2_ageKey 0 = .ok (.aload_n 0, 1) := by decide +kernel
theorem dX2_ageKey_1 : decode cX2_ageKey 1 = .ok (.iload_n 1, 1) := by decide +kernel
theorem dX2_ageKey_2 : decode cX2_ageKey 2 = .ok (.invokevirtual 102, 3) := by decide +kernel
theorem dX2_ageKey_5 : decode cX2_ageKey 5 = .ok (.ifCond .eq 25, 3) := by decide +kernel
theorem dX2_ageKey_8 : decode cX2_ageKey 8 = .ok (.aload_n 0, 1) := by decide +kernel
theorem dX2_ageKey_9 : decode cX2_ageKey 9 = .ok (.getfield 43, 3) := by decide +kernel
theorem dX2_ageKey_12 : decode cX2_ageKey 12 = .ok (.iload_n 1, 1) := by decide +kernel
theorem dX2_ageKey_13 : decode cX2_ageKey 13 = .ok (.iaload, 1) := by decide +kernel
theorem dX2_ageKey_14 : decode cX2_ageKey 14 = .ok (.i2l, 1) := by decide +kernel
theorem dX2_ageKey_15 : decode cX2_ageKey 15 = .ok (.ldc2_w 106, 3) := by decide +kernel
theorem dX2_ageKey_18 : decode cX2_ageKey 18 = .ok (.lmul, 1) := by decide +kernel
theorem dX2_ageKey_19 : decode cX2_ageKey 19 = .ok (.aload_n 0, 1) := by decide +kernel
theorem dX2_ageKey_20 : decode cX2_ageKey 20 = .ok (.getfield 40, 3) := by decide +kernel
theorem dX2_ageKey_23 : decode cX2_ageKey 23 = .ok (.iload_n 1, 1) := by decide +kernel
theorem dX2_ageKey_24 : decode cX2_ageKey 24 = .ok (.iaload, 1) := by decide +kernel
theorem dX2_ageKey_25 : decode cX2_ageKey 25 = .ok (.i2l, 1) := by decide +kernel
theorem dX2_ageKey_26 : decode cX2_ageKey 26 = .ok (.ladd, 1) := by decide +kernel
theorem dX2_ageKey_27 : decode cX2_ageKey 27 = .ok (.goto 6, 3) := by decide +kernel
theorem dX2_ageKey_30 : decode cX2_ageKey 30 = .ok (.ldc2_w 108, 3) := by decide +kernel
theorem dX2_ageKey_33 : decode cX2_ageKey 33 = .ok (.lreturn, 1) := by decide +kernel
theorem dX2_oldestDirty_0 : decode cX2_oldestDirty 0 = .ok (.iconst (-1), 1) := by decide +kernel
theorem dX2_oldestDirty_1 : decode cX2_oldestDirty 1 = .ok (.istore_n 3, 1) := by decide +kernel
theorem dX2_oldestDirty_2 : decode cX2_oldestDirty 2 = .ok (.lconst 0, 1) := by decide +kernel
theorem dX2_oldestDirty_3 : decode cX2_oldestDirty 3 = .ok (.lstore 4, 2) := by decide +kernel
theorem dX2_oldestDirty_5 : decode cX2_oldestDirty 5 = .ok (.iconst 0, 1) := by decide +kernel
theorem dX2_oldestDirty_6 : decode cX2_oldestDirty 6 = .ok (.istore 6, 2) := by decide +kernel
theorem dX2_oldestDirty_8 : decode cX2_oldestDirty 8 = .ok (.iload 6, 2) := by decide +kernel
theorem dX2_oldestDirty_10 : decode cX2_oldestDirty 10 = .ok (.aload_n 0, 1) := by decide +kernel
theorem dX2_oldestDirty_11 : decode cX2_oldestDirty 11 = .ok (.getfield 28, 3) := by decide +kernel
theorem dX2_oldestDirty_14 : decode cX2_oldestDirty 14 = .ok (.if_icmp .ge 51, 3) := by decide +kernel
theorem dX2_oldestDirty_17 : decode cX2_oldestDirty 17 = .ok (.aload_n 0, 1) := by decide +kernel
theorem dX2_oldestDirty_18 : decode cX2_oldestDirty 18 = .ok (.getfield 15, 3) := by decide +kernel
theorem dX2_oldestDirty_21 : decode cX2_oldestDirty 21 = .ok (.ifCond .le 44, 3) := by decide +kernel
theorem dX2_oldestDirty_24 : decode cX2_oldestDirty 24 = .ok (.aload_n 0, 1) := by decide +kernel
theorem dX2_oldestDirty_25 : decode cX2_oldestDirty 25 = .ok (.iload 6, 2) := by decide +kernel
theorem dX2_oldestDirty_27 : decode cX2_oldestDirty 27 = .ok (.invokevirtual 110, 3) := by decide +kernel
theorem dX2_oldestDirty_30 : decode cX2_oldestDirty 30 = .ok (.lstore 7, 2) := by decide +kernel
theorem dX2_oldestDirty_32 : decode cX2_oldestDirty 32 = .ok (.lload 7, 2) := by decide +kernel
theorem dX2_oldestDirty_34 : decode cX2_oldestDirty 34 = .ok (.lload_n 1, 1) := by decide +kernel
theorem dX2_oldestDirty_35 : decode cX2_oldestDirty 35 = .ok (.lcmp, 1) := by decide +kernel
theorem dX2_oldestDirty_36 : decode cX2_oldestDirty 36 = .ok (.ifCond .le 23, 3) := by decide +kernel
theorem dX2_oldestDirty_39 : decode cX2_oldestDirty 39 = .ok (.iload_n 3, 1) := by decide +kernel
theorem dX2_oldestDirty_40 : decode cX2_oldestDirty 40 = .ok (.iconst (-1), 1) := by decide +kernel
theorem dX2_oldestDirty_41 : decode cX2_oldestDirty 41 = .ok (.if_icmp .eq 11, 3) := by decide +kernel
theorem dX2_oldestDirty_44 : decode cX2_oldestDirty 44 = .ok (.lload 7, 2) := by decide +kernel
theorem dX2_oldestDirty_46 : decode cX2_oldestDirty 46 = .ok (.lload 4, 2) := by decide +kernel
theorem dX2_oldestDirty_48 : decode cX2_oldestDirty 48 = .ok (.lcmp, 1) := by decide +kernel
theorem dX2_oldestDirty_49 : decode cX2_oldestDirty 49 = .ok (.ifCond .ge 10, 3) := by decide +kernel
theorem dX2_oldestDirty_52 : decode cX2_oldestDirty 52 = .ok (.iload 6, 2) := by decide +kernel
theorem dX2_oldestDirty_54 : decode cX2_oldestDirty 54 = .ok (.istore_n 3, 1) := by decide +kernel
theorem dX2_oldestDirty_55 : decode cX2_oldestDirty 55 = .ok (.lload 7, 2) := by decide +kernel
theorem dX2_oldestDirty_57 : decode cX2_oldestDirty 57 = .ok (.lstore 4, 2) := by decide +kernel
theorem dX2_oldestDirty_59 : decode cX2_oldestDirty 59 = .ok (.iinc 6 1, 3) := by decide +kernel
theorem dX2_oldestDirty_62 : decode cX2_oldestDirty 62 = .ok (.goto (-54), 3) := by decide +kernel
theorem dX2_oldestDirty_65 : decode cX2_oldestDirty 65 = .ok (.iload_n 3, 1) := by decide +kernel
theorem dX2_oldestDirty_66 : decode cX2_oldestDirty 66 = .ok (.ireturn, 1) := by decide +kernel
theorem dX3_init_0 : decode cX3_init 0 = .ok (.aload_n 0, 1) := by decide +kernel
theorem dX3_init_1 : decode cX3_init 1 = .ok (.invokespecial 3, 3) := by decide +kernel
theorem dX3_init_4 : decode cX3_init 4 = .ok (.aload_n 0, 1) := by decide +kernel
theorem dX3_init_5 : decode cX3_init 5 = .ok (.iconst 0, 1) := by decide +kernel
theorem dX3_init_6 : decode cX3_init 6 = .ok (.putfield 9, 3) := by decide +kernel
theorem dX3_init_9 : decode cX3_init 9 = .ok (.aload_n 0, 1) := by decide +kernel
theorem dX3_init_10 : decode cX3_init 10 = .ok (.iconst 0, 1) := by decide +kernel
theorem dX3_init_11 : decode cX3_init 11 = .ok (.iload_n 1, 1) := by decide +kernel
theorem dX3_init_12 : decode cX3_init 12 = .ok (.invokestatic 15, 3) := by decide +kernel
theorem dX3_init_15 : decode cX3_init 15 = .ok (.newarray .int, 2) := by decide +kernel
theorem dX3_init_17 : decode cX3_init 17 = .ok (.putfield 21, 3) := by decide +kernel
theorem dX3_init_20 : decode cX3_init 20 = .ok (.return_, 1) := by decide +kernel
theorem dX3_at_0 : decode cX3_at 0 = .ok (.iload_n 1, 1) := by decide +kernel
theorem dX3_at_1 : decode cX3_at 1 = .ok (.ifCond .lt 11, 3) := by decide +kernel
theorem dX3_at_4 : decode cX3_at 4 = .ok (.iload_n 1, 1) := by decide +kernel
theorem dX3_at_5 : decode cX3_at 5 = .ok (.aload_n 0, 1) := by decide +kernel
theorem dX3_at_6 : decode cX3_at 6 = .ok (.getfield 9, 3) := by decide +kernel
theorem dX3_at_9 : decode cX3_at 9 = .ok (.if_icmp .lt 7, 3) := by decide +kernel
theorem dX3_at_12 : decode cX3_at 12 = .ok (.iconst (-1), 1) := by decide +kernel
theorem dX3_at_13 : decode cX3_at 13 = .ok (.goto 9, 3) := by decide +kernel
theorem dX3_at_16 : decode cX3_at 16 = .ok (.aload_n 0, 1) := by decide +kernel
theorem dX3_at_17 : decode cX3_at 17 = .ok (.getfield 21, 3) := by decide +kernel
theorem dX3_at_20 : decode cX3_at 20 = .ok (.iload_n 1, 1) := by decide +kernel
theorem dX3_at_21 : decode cX3_at 21 = .ok (.iaload, 1) := by decide +kernel
theorem dX3_at_22 : decode cX3_at 22 = .ok (.ireturn, 1) := by decide +kernel
theorem dX3_last_0 : decode cX3_last 0 = .ok (.aload_n 0, 1) := by decide +kernel
theorem dX3_last_1 : decode cX3_last 1 = .ok (.aload_n 0, 1) := by decide +kernel
theorem dX3_last_2 : decode cX3_last 2 = .ok (.getfield 9, 3) := by decide +kernel
theorem dX3_last_5 : decode cX3_last 5 = .ok (.iconst 1, 1) := by decide +kernel
theorem dX3_last_6 : decode cX3_last 6 = .ok (.isub, 1) := by decide +kernel
theorem dX3_last_7 : decode cX3_last 7 = .ok (.invokevirtual 25, 3) := by decide +kernel
theorem dX3_last_10 : decode cX3_last 10 = .ok (.ireturn, 1) := by decide +kernel
theorem dX3_placeOf_0 : decode cX3_placeOf 0 = .ok (.iconst 0, 1) := by decide +kernel
theorem dX3_placeOf_1 : decode cX3_placeOf 1 = .ok (.istore_n 2, 1) := by decide +kernel
theorem dX3_placeOf_2 : decode cX3_placeOf 2 = .ok (.iload_n 2, 1) := by decide +kernel
theorem dX3_placeOf_3 : decode cX3_placeOf 3 = .ok (.aload_n 0, 1) := by decide +kernel
theorem dX3_placeOf_4 : decode cX3_placeOf 4 = .ok (.getfield 9, 3) := by decide +kernel
theorem dX3_placeOf_7 : decode cX3_placeOf 7 = .ok (.if_icmp .ge 21, 3) := by decide +kernel
theorem dX3_placeOf_10 : decode cX3_placeOf 10 = .ok (.aload_n 0, 1) := by decide +kernel
theorem dX3_placeOf_11 : decode cX3_placeOf 11 = .ok (.getfield 21, 3) := by decide +kernel
theorem dX3_placeOf_14 : decode cX3_placeOf 14 = .ok (.iload_n 2, 1) := by decide +kernel
theorem dX3_placeOf_15 : decode cX3_placeOf 15 = .ok (.iaload, 1) := by decide +kernel
theorem dX3_placeOf_16 : decode cX3_placeOf 16 = .ok (.iload_n 1, 1) := by decide +kernel
theorem dX3_placeOf_17 : decode cX3_placeOf 17 = .ok (.if_icmp .ne 5, 3) := by decide +kernel
theorem dX3_placeOf_20 : decode cX3_placeOf 20 = .ok (.iload_n 2, 1) := by decide +kernel
theorem dX3_placeOf_21 : decode cX3_placeOf 21 = .ok (.ireturn, 1) := by decide +kernel
theorem dX3_placeOf_22 : decode cX3_placeOf 22 = .ok (.iinc 2 1, 3) := by decide +kernel
theorem dX3_placeOf_25 : decode cX3_placeOf 25 = .ok (.goto (-23), 3) := by decide +kernel
theorem dX3_placeOf_28 : decode cX3_placeOf 28 = .ok (.iconst (-1), 1) := by decide +kernel
theorem dX3_placeOf_29 : decode cX3_placeOf 29 = .ok (.ireturn, 1) := by decide +kernel
theorem dX3_addFront_0 : decode cX3_addFront 0 = .ok (.aload_n 0, 1) := by decide +kernel
theorem dX3_addFront_1 : decode cX3_addFront 1 = .ok (.getfield 9, 3) := by decide +kernel
theorem dX3_addFront_4 : decode cX3_addFront 4 = .ok (.aload_n 0, 1) := by decide +kernel
theorem dX3_addFront_5 : decode cX3_addFront 5 = .ok (.getfield 21, 3) := by decide +kernel
theorem dX3_addFront_8 : decode cX3_addFront 8 = .ok (.arraylength, 1) := by decide +kernel
theorem dX3_addFront_9 : decode cX3_addFront 9 = .ok (.if_icmp .ge 37, 3) := by decide +kernel
theorem dX3_addFront_12 : decode cX3_addFront 12 = .ok (.aload_n 0, 1) := by decide +kernel
theorem dX3_addFront_13 : decode cX3_addFront 13 = .ok (.getfield 21, 3) := by decide +kernel
theorem dX3_addFront_16 : decode cX3_addFront 16 = .ok (.iconst 0, 1) := by decide +kernel
theorem dX3_addFront_17 : decode cX3_addFront 17 = .ok (.aload_n 0, 1) := by decide +kernel
theorem dX3_addFront_18 : decode cX3_addFront 18 = .ok (.getfield 21, 3) := by decide +kernel
theorem dX3_addFront_21 : decode cX3_addFront 21 = .ok (.iconst 1, 1) := by decide +kernel
theorem dX3_addFront_22 : decode cX3_addFront 22 = .ok (.aload_n 0, 1) := by decide +kernel
theorem dX3_addFront_23 : decode cX3_addFront 23 = .ok (.getfield 9, 3) := by decide +kernel
theorem dX3_addFront_26 : decode cX3_addFront 26 = .ok (.invokestatic 29, 3) := by decide +kernel
theorem dX3_addFront_29 : decode cX3_addFront 29 = .ok (.aload_n 0, 1) := by decide +kernel
theorem dX3_addFront_30 : decode cX3_addFront 30 = .ok (.getfield 21, 3) := by decide +kernel
theorem dX3_addFront_33 : decode cX3_addFront 33 = .ok (.iconst 0, 1) := by decide +kernel
theorem dX3_addFront_34 : decode cX3_addFront 34 = .ok (.iload_n 1, 1) := by decide +kernel
theorem dX3_addFront_35 : decode cX3_addFront 35 = .ok (.iastore, 1) := by decide +kernel
theorem dX3_addFront_36 : decode cX3_addFront 36 = .ok (.aload_n 0, 1) := by decide +kernel
theorem dX3_addFront_37 : decode cX3_addFront 37 = .ok (.dup, 1) := by decide +kernel
theorem dX3_addFront_38 : decode cX3_addFront 38 = .ok (.getfield 9, 3) := by decide +kernel
theorem dX3_addFront_41 : decode cX3_addFront 41 = .ok (.iconst 1, 1) := by decide +kernel
theorem dX3_addFront_42 : decode cX3_addFront 42 = .ok (.iadd, 1) := by decide +kernel
theorem dX3_addFront_43 : decode cX3_addFront 43 = .ok (.putfield 9, 3) := by decide +kernel
theorem dX3_addFront_46 : decode cX3_addFront 46 = .ok (.return_, 1) := by decide +kernel
theorem dX3_take_0 : decode cX3_take 0 = .ok (.aload_n 0, 1) := by decide +kernel
theorem dX3_take_1 : decode cX3_take 1 = .ok (.iload_n 1, 1) := by decide +kernel
theorem dX3_take_2 : decode cX3_take 2 = .ok (.invokevirtual 35, 3) := by decide +kernel
theorem dX3_take_5 : decode cX3_take 5 = .ok (.istore_n 2, 1) := by decide +kernel
theorem dX3_take_6 : decode cX3_take 6 = .ok (.iload_n 2, 1) := by decide +kernel
theorem dX3_take_7 : decode cX3_take 7 = .ok (.iconst (-1), 1) := by decide +kernel
theorem dX3_take_8 : decode cX3_take 8 = .ok (.if_icmp .eq 36, 3) := by decide +kernel
theorem dX3_take_11 : decode cX3_take 11 = .ok (.aload_n 0, 1) := by decide +kernel
theorem dX3_take_12 : decode cX3_take 12 = .ok (.getfield 21, 3) := by decide +kernel
theorem dX3_take_15 : decode cX3_take 15 = .ok (.iload_n 2, 1) := by decide +kernel
theorem dX3_take_16 : decode cX3_take 16 = .ok (.iconst 1, 1) := by decide +kernel
theorem dX3_take_17 : decode cX3_take 17 = .ok (.iadd, 1) := by decide +kernel
theorem dX3_take_18 : decode cX3_take 18 = .ok (.aload_n 0, 1) := by decide +kernel
theorem dX3_take_19 : decode cX3_take 19 = .ok (.getfield 21, 3) := by decide +kernel
theorem dX3_take_22 : decode cX3_take 22 = .ok (.iload_n 2, 1) := by decide +kernel
theorem dX3_take_23 : decode cX3_take 23 = .ok (.aload_n 0, 1) := by decide +kernel
theorem dX3_take_24 : decode cX3_take 24 = .ok (.getfield 9, 3) := by decide +kernel
theorem dX3_take_27 : decode cX3_take 27 = .ok (.iload_n 2, 1) := by decide +kernel
theorem dX3_take_28 : decode cX3_take 28 = .ok (.isub, 1) := by decide +kernel
theorem dX3_take_29 : decode cX3_take 29 = .ok (.iconst 1, 1) := by decide +kernel
theorem dX3_take_30 : decode cX3_take 30 = .ok (.isub, 1) := by decide +kernel
theorem dX3_take_31 : decode cX3_take 31 = .ok (.invokestatic 29, 3) := by decide +kernel
theorem dX3_take_34 : decode cX3_take 34 = .ok (.aload_n 0, 1) := by decide +kernel
theorem dX3_take_35 : decode cX3_take 35 = .ok (.dup, 1) := by decide +kernel
theorem dX3_take_36 : decode cX3_take 36 = .ok (.getfield 9, 3) := by decide +kernel
theorem dX3_take_39 : decode cX3_take 39 = .ok (.iconst 1, 1) := by decide +kernel
theorem dX3_take_40 : decode cX3_take 40 = .ok (.isub, 1) := by decide +kernel
theorem dX3_take_41 : decode cX3_take 41 = .ok (.putfield 9, 3) := by decide +kernel
theorem dX3_take_44 : decode cX3_take 44 = .ok (.return_, 1) := by decide +kernel
theorem dX4_init_0 : decode cX4_init 0 = .ok (.aload_n 0, 1) := by decide +kernel
theorem dX4_init_1 : decode cX4_init 1 = .ok (.invokespecial 3, 3) := by decide +kernel
theorem dX4_init_4 : decode cX4_init 4 = .ok (.aload_n 0, 1) := by decide +kernel
theorem dX4_init_5 : decode cX4_init 5 = .ok (.sipush 3072, 3) := by decide +kernel
theorem dX4_init_8 : decode cX4_init 8 = .ok (.newarray .int, 2) := by decide +kernel
theorem dX4_init_10 : decode cX4_init 10 = .ok (.putfield 9, 3) := by decide +kernel
theorem dX4_init_13 : decode cX4_init 13 = .ok (.aload_n 0, 1) := by decide +kernel
theorem dX4_init_14 : decode cX4_init 14 = .ok (.iconst 0, 1) := by decide +kernel
theorem dX4_init_15 : decode cX4_init 15 = .ok (.putfield 15, 3) := by decide +kernel
theorem dX4_init_18 : decode cX4_init 18 = .ok (.aload_n 0, 1) := by decide +kernel
theorem dX4_init_19 : decode cX4_init 19 = .ok (.iconst 0, 1) := by decide +kernel
theorem dX4_init_20 : decode cX4_init 20 = .ok (.putfield 19, 3) := by decide +kernel
theorem dX4_init_23 : decode cX4_init 23 = .ok (.aload_n 0, 1) := by decide +kernel
theorem dX4_init_24 : decode cX4_init 24 = .ok (.iconst 1, 1) := by decide +kernel
theorem dX4_init_25 : decode cX4_init 25 = .ok (.iload_n 1, 1) := by decide +kernel
theorem dX4_init_26 : decode cX4_init 26 = .ok (.invokestatic 22, 3) := by decide +kernel
theorem dX4_init_29 : decode cX4_init 29 = .ok (.newarray .int, 2) := by decide +kernel
theorem dX4_init_31 : decode cX4_init 31 = .ok (.putfield 28, 3) := by decide +kernel
theorem dX4_init_34 : decode cX4_init 34 = .ok (.aload_n 0, 1) := by decide +kernel
theorem dX4_init_35 : decode cX4_init 35 = .ok (.getfield 9, 3) := by decide +kernel
theorem dX4_init_38 : decode cX4_init 38 = .ok (.iconst (-1), 1) := by decide +kernel
theorem dX4_init_39 : decode cX4_init 39 = .ok (.invokestatic 31, 3) := by decide +kernel
theorem dX4_init_42 : decode cX4_init 42 = .ok (.return_, 1) := by decide +kernel
theorem dX4_of_0 : decode cX4_of 0 = .ok (.iload_n 1, 1) := by decide +kernel
theorem dX4_of_1 : decode cX4_of 1 = .ok (.ifCond .lt 10, 3) := by decide +kernel
theorem dX4_of_4 : decode cX4_of 4 = .ok (.iload_n 1, 1) := by decide +kernel
theorem dX4_of_5 : decode cX4_of 5 = .ok (.sipush 3072, 3) := by decide +kernel
theorem dX4_of_8 : decode cX4_of 8 = .ok (.if_icmp .lt 7, 3) := by decide +kernel
theorem dX4_of_11 : decode cX4_of 11 = .ok (.iconst (-1), 1) := by decide +kernel
theorem dX4_of_12 : decode cX4_of 12 = .ok (.goto 9, 3) := by decide +kernel
theorem dX4_of_15 : decode cX4_of 15 = .ok (.aload_n 0, 1) := by decide +kernel
theorem dX4_of_16 : decode cX4_of 16 = .ok (.getfield 9, 3) := by decide +kernel
theorem dX4_of_19 : decode cX4_of 19 = .ok (.iload_n 1, 1) := by decide +kernel
theorem dX4_of_20 : decode cX4_of 20 = .ok (.iaload, 1) := by decide +kernel
theorem dX4_of_21 : decode cX4_of 21 = .ok (.ireturn, 1) := by decide +kernel
theorem dX4_isRecent_0 : decode cX4_isRecent 0 = .ok (.aload_n 0, 1) := by decide +kernel
theorem dX4_isRecent_1 : decode cX4_isRecent 1 = .ok (.iload_n 1, 1) := by decide +kernel
theorem dX4_isRecent_2 : decode cX4_isRecent 2 = .ok (.invokevirtual 37, 3) := by decide +kernel
theorem dX4_isRecent_5 : decode cX4_isRecent 5 = .ok (.istore_n 3, 1) := by decide +kernel
theorem dX4_isRecent_6 : decode cX4_isRecent 6 = .ok (.iload_n 3, 1) := by decide +kernel
theorem dX4_isRecent_7 : decode cX4_isRecent 7 = .ok (.iconst (-1), 1) := by decide +kernel
theorem dX4_isRecent_8 : decode cX4_isRecent 8 = .ok (.if_icmp .eq 17, 3) := by decide +kernel
theorem dX4_isRecent_11 : decode cX4_isRecent 11 = .ok (.aload_n 0, 1) := by decide +kernel
theorem dX4_isRecent_12 : decode cX4_isRecent 12 = .ok (.getfield 19, 3) := by decide +kernel
theorem dX4_isRecent_15 : decode cX4_isRecent 15 = .ok (.iload_n 3, 1) := by decide +kernel
theorem dX4_isRecent_16 : decode cX4_isRecent 16 = .ok (.isub, 1) := by decide +kernel
theorem dX4_isRecent_17 : decode cX4_isRecent 17 = .ok (.iload_n 2, 1) := by decide +kernel
theorem dX4_isRecent_18 : decode cX4_isRecent 18 = .ok (.if_icmp .gt 7, 3) := by decide +kernel
theorem dX4_isRecent_21 : decode cX4_isRecent 21 = .ok (.iconst 1, 1) := by decide +kernel
theorem dX4_isRecent_22 : decode cX4_isRecent 22 = .ok (.goto 4, 3) := by decide +kernel
theorem dX4_isRecent_25 : decode cX4_isRecent 25 = .ok (.iconst 0, 1) := by decide +kernel
theorem dX4_isRecent_26 : decode cX4_isRecent 26 = .ok (.ireturn, 1) := by decide +kernel
theorem dX4_add_0 : decode cX4_add 0 = .ok (.aload_n 0, 1) := by decide +kernel
theorem dX4_add_1 : decode cX4_add 1 = .ok (.dup, 1) := by decide +kernel
theorem dX4_add_2 : decode cX4_add 2 = .ok (.getfield 19, 3) := by decide +kernel
theorem dX4_add_5 : decode cX4_add 5 = .ok (.iconst 1, 1) := by decide +kernel
theorem dX4_add_6 : decode cX4_add 6 = .ok (.iadd, 1) := by decide +kernel
theorem dX4_add_7 : decode cX4_add 7 = .ok (.putfield 19, 3) := by decide +kernel
theorem dX4_add_10 : decode cX4_add 10 = .ok (.iload_n 1, 1) := by decide +kernel
theorem dX4_add_11 : decode cX4_add 11 = .ok (.ifCond .lt 10, 3) := by decide +kernel
theorem dX4_add_14 : decode cX4_add 14 = .ok (.iload_n 1, 1) := by decide +kernel
theorem dX4_add_15 : decode cX4_add 15 = .ok (.sipush 3072, 3) := by decide +kernel
theorem dX4_add_18 : decode cX4_add 18 = .ok (.if_icmp .lt 4, 3) := by decide +kernel
theorem dX4_add_21 : decode cX4_add 21 = .ok (.return_, 1) := by decide +kernel
theorem dX4_add_22 : decode cX4_add 22 = .ok (.aload_n 0, 1) := by decide +kernel
theorem dX4_add_23 : decode cX4_add 23 = .ok (.getfield 15, 3) := by decide +kernel
theorem dX4_add_26 : decode cX4_add 26 = .ok (.aload_n 0, 1) := by decide +kernel
theorem dX4_add_27 : decode cX4_add 27 = .ok (.getfield 28, 3) := by decide +kernel
theorem dX4_add_30 : decode cX4_add 30 = .ok (.arraylength, 1) := by decide +kernel
theorem dX4_add_31 : decode cX4_add 31 = .ok (.if_icmp .ne 13, 3) := by decide +kernel
theorem dX4_add_34 : decode cX4_add 34 = .ok (.aload_n 0, 1) := by decide +kernel
theorem dX4_add_35 : decode cX4_add 35 = .ok (.aload_n 0, 1) := by decide +kernel
theorem dX4_add_36 : decode cX4_add 36 = .ok (.getfield 28, 3) := by decide +kernel
theorem dX4_add_39 : decode cX4_add 39 = .ok (.iconst 0, 1) := by decide +kernel
theorem dX4_add_40 : decode cX4_add 40 = .ok (.iaload, 1) := by decide +kernel
theorem dX4_add_41 : decode cX4_add 41 = .ok (.invokevirtual 41, 3) := by decide +kernel
theorem dX4_add_44 : decode cX4_add 44 = .ok (.aload_n 0, 1) := by decide +kernel
theorem dX4_add_45 : decode cX4_add 45 = .ok (.getfield 9, 3) := by decide +kernel
theorem dX4_add_48 : decode cX4_add 48 = .ok (.iload_n 1, 1) := by decide +kernel
theorem dX4_add_49 : decode cX4_add 49 = .ok (.aload_n 0, 1) := by decide +kernel
theorem dX4_add_50 : decode cX4_add 50 = .ok (.getfield 19, 3) := by decide +kernel
theorem dX4_add_53 : decode cX4_add 53 = .ok (.iastore, 1) := by decide +kernel
theorem dX4_add_54 : decode cX4_add 54 = .ok (.aload_n 0, 1) := by decide +kernel
theorem dX4_add_55 : decode cX4_add 55 = .ok (.getfield 28, 3) := by decide +kernel
theorem dX4_add_58 : decode cX4_add 58 = .ok (.aload_n 0, 1) := by decide +kernel
theorem dX4_add_59 : decode cX4_add 59 = .ok (.getfield 15, 3) := by decide +kernel
theorem dX4_add_62 : decode cX4_add 62 = .ok (.iload_n 1, 1) := by decide +kernel
theorem dX4_add_63 : decode cX4_add 63 = .ok (.iastore, 1) := by decide +kernel
theorem dX4_add_64 : decode cX4_add 64 = .ok (.aload_n 0, 1) := by decide +kernel
theorem dX4_add_65 : decode cX4_add 65 = .ok (.dup, 1) := by decide +kernel
theorem dX4_add_66 : decode cX4_add 66 = .ok (.getfield 15, 3) := by decide +kernel
theorem dX4_add_69 : decode cX4_add 69 = .ok (.iconst 1, 1) := by decide +kernel
theorem dX4_add_70 : decode cX4_add 70 = .ok (.iadd, 1) := by decide +kernel
theorem dX4_add_71 : decode cX4_add 71 = .ok (.putfield 15, 3) := by decide +kernel
theorem dX4_add_74 : decode cX4_add 74 = .ok (.return_, 1) := by decide +kernel
theorem dX4_forget_0 : decode cX4_forget 0 = .ok (.aload_n 0, 1) := by decide +kernel
theorem dX4_forget_1 : decode cX4_forget 1 = .ok (.iload_n 1, 1) := by decide +kernel
theorem dX4_forget_2 : decode cX4_forget 2 = .ok (.invokevirtual 37, 3) := by decide +kernel
theorem dX4_forget_5 : decode cX4_forget 5 = .ok (.iconst (-1), 1) := by decide +kernel
theorem dX4_forget_6 : decode cX4_forget 6 = .ok (.if_icmp .ne 4, 3) := by decide +kernel
theorem dX4_forget_9 : decode cX4_forget 9 = .ok (.return_, 1) := by decide +kernel
theorem dX4_forget_10 : decode cX4_forget 10 = .ok (.aload_n 0, 1) := by decide +kernel
theorem dX4_forget_11 : decode cX4_forget 11 = .ok (.getfield 9, 3) := by decide +kernel
theorem dX4_forget_14 : decode cX4_forget 14 = .ok (.iload_n 1, 1) := by decide +kernel
theorem dX4_forget_15 : decode cX4_forget 15 = .ok (.iconst (-1), 1) := by decide +kernel
theorem dX4_forget_16 : decode cX4_forget 16 = .ok (.iastore, 1) := by decide +kernel
theorem dX4_forget_17 : decode cX4_forget 17 = .ok (.iconst 0, 1) := by decide +kernel
theorem dX4_forget_18 : decode cX4_forget 18 = .ok (.istore_n 2, 1) := by decide +kernel
theorem dX4_forget_19 : decode cX4_forget 19 = .ok (.iload_n 2, 1) := by decide +kernel
theorem dX4_forget_20 : decode cX4_forget 20 = .ok (.aload_n 0, 1) := by decide +kernel
theorem dX4_forget_21 : decode cX4_forget 21 = .ok (.getfield 15, 3) := by decide +kernel
theorem dX4_forget_24 : decode cX4_forget 24 = .ok (.if_icmp .ge 53, 3) := by decide +kernel
theorem dX4_forget_27 : decode cX4_forget 27 = .ok (.aload_n 0, 1) := by decide +kernel
theorem dX4_forget_28 : decode cX4_forget 28 = .ok (.getfield 28, 3) := by decide +kernel
theorem dX4_forget_31 : decode cX4_forget 31 = .ok (.iload_n 2, 1) := by decide +kernel
theorem dX4_forget_32 : decode cX4_forget 32 = .ok (.iaload, 1) := by decide +kernel
theorem dX4_forget_33 : decode cX4_forget 33 = .ok (.iload_n 1, 1) := by decide +kernel
theorem dX4_forget_34 : decode cX4_forget 34 = .ok (.if_icmp .ne 37, 3) := by decide +kernel
theorem dX4_forget_37 : decode cX4_forget 37 = .ok (.aload_n 0, 1) := by decide +kernel
theorem dX4_forget_38 : decode cX4_forget 38 = .ok (.getfield 28, 3) := by decide +kernel
theorem dX4_forget_41 : decode cX4_forget 41 = .ok (.iload_n 2, 1) := by decide +kernel
theorem dX4_forget_42 : decode cX4_forget 42 = .ok (.iconst 1, 1) := by decide +kernel
theorem dX4_forget_43 : decode cX4_forget 43 = .ok (.iadd, 1) := by decide +kernel
theorem dX4_forget_44 : decode cX4_forget 44 = .ok (.aload_n 0, 1) := by decide +kernel
theorem dX4_forget_45 : decode cX4_forget 45 = .ok (.getfield 28, 3) := by decide +kernel
theorem dX4_forget_48 : decode cX4_forget 48 = .ok (.iload_n 2, 1) := by decide +kernel
theorem dX4_forget_49 : decode cX4_forget 49 = .ok (.aload_n 0, 1) := by decide +kernel
theorem dX4_forget_50 : decode cX4_forget 50 = .ok (.getfield 15, 3) := by decide +kernel
theorem dX4_forget_53 : decode cX4_forget 53 = .ok (.iload_n 2, 1) := by decide +kernel
theorem dX4_forget_54 : decode cX4_forget 54 = .ok (.isub, 1) := by decide +kernel
theorem dX4_forget_55 : decode cX4_forget 55 = .ok (.iconst 1, 1) := by decide +kernel
theorem dX4_forget_56 : decode cX4_forget 56 = .ok (.isub, 1) := by decide +kernel
theorem dX4_forget_57 : decode cX4_forget 57 = .ok (.invokestatic 45, 3) := by decide +kernel
theorem dX4_forget_60 : decode cX4_forget 60 = .ok (.aload_n 0, 1) := by decide +kernel
theorem dX4_forget_61 : decode cX4_forget 61 = .ok (.dup, 1) := by decide +kernel
theorem dX4_forget_62 : decode cX4_forget 62 = .ok (.getfield 15, 3) := by decide +kernel
theorem dX4_forget_65 : decode cX4_forget 65 = .ok (.iconst 1, 1) := by decide +kernel
theorem dX4_forget_66 : decode cX4_forget 66 = .ok (.isub, 1) := by decide +kernel
theorem dX4_forget_67 : decode cX4_forget 67 = .ok (.putfield 15, 3) := by decide +kernel
theorem dX4_forget_70 : decode cX4_forget 70 = .ok (.return_, 1) := by decide +kernel
theorem dX4_forget_71 : decode cX4_forget 71 = .ok (.iinc 2 1, 3) := by decide +kernel
theorem dX4_forget_74 : decode cX4_forget 74 = .ok (.goto (-55), 3) := by decide +kernel
theorem dX4_forget_77 : decode cX4_forget 77 = .ok (.return_, 1) := by decide +kernel
theorem dX4_forgetAll_0 : decode cX4_forgetAll 0 = .ok (.aload_n 0, 1) := by decide +kernel
theorem dX4_forgetAll_1 : decode cX4_forgetAll 1 = .ok (.getfield 9, 3) := by decide +kernel
theorem dX4_forgetAll_4 : decode cX4_forgetAll 4 = .ok (.iconst (-1), 1) := by decide +kernel
theorem dX4_forgetAll_5 : decode cX4_forgetAll 5 = .ok (.invokestatic 31, 3) := by decide +kernel
theorem dX4_forgetAll_8 : decode cX4_forgetAll 8 = .ok (.aload_n 0, 1) := by decide +kernel
theorem dX4_forgetAll_9 : decode cX4_forgetAll 9 = .ok (.iconst 0, 1) := by decide +kernel
theorem dX4_forgetAll_10 : decode cX4_forgetAll 10 = .ok (.putfield 15, 3) := by decide +kernel
theorem dX4_forgetAll_13 : decode cX4_forgetAll 13 = .ok (.return_, 1) := by decide +kernel
theorem dX5_init_0 : decode cX5_init 0 = .ok (.aload_n 0, 1) := by decide +kernel
theorem dX5_init_1 : decode cX5_init 1 = .ok (.invokespecial 3, 3) := by decide +kernel
theorem dX5_init_4 : decode cX5_init 4 = .ok (.aload_n 0, 1) := by decide +kernel
theorem dX5_init_5 : decode cX5_init 5 = .ok (.iconst 0, 1) := by decide +kernel
theorem dX5_init_6 : decode cX5_init 6 = .ok (.iload_n 1, 1) := by decide +kernel
theorem dX5_init_7 : decode cX5_init 7 = .ok (.bipush 8, 2) := by decide +kernel
theorem dX5_init_9 : decode cX5_init 9 = .ok (.idiv, 1) := by decide +kernel
theorem dX5_init_10 : decode cX5_init 10 = .ok (.invokestatic 9, 3) := by decide +kernel
theorem dX5_init_13 : decode cX5_init 13 = .ok (.newarray .long, 2) := by decide +kernel
theorem dX5_init_15 : decode cX5_init 15 = .ok (.putfield 15, 3) := by decide +kernel
theorem dX5_init_18 : decode cX5_init 18 = .ok (.return_, 1) := by decide +kernel
theorem dX5_byteAt_0 : decode cX5_byteAt 0 = .ok (.iload_n 1, 1) := by decide +kernel
theorem dX5_byteAt_1 : decode cX5_byteAt 1 = .ok (.ifCond .lt 15, 3) := by decide +kernel
theorem dX5_byteAt_4 : decode cX5_byteAt 4 = .ok (.iload_n 1, 1) := by decide +kernel
theorem dX5_byteAt_5 : decode cX5_byteAt 5 = .ok (.bipush 8, 2) := by decide +kernel
theorem dX5_byteAt_7 : decode cX5_byteAt 7 = .ok (.idiv, 1) := by decide +kernel
theorem dX5_byteAt_8 : decode cX5_byteAt 8 = .ok (.aload_n 0, 1) := by decide +kernel
theorem dX5_byteAt_9 : decode cX5_byteAt 9 = .ok (.getfield 15, 3) := by decide +kernel
theorem dX5_byteAt_12 : decode cX5_byteAt 12 = .ok (.arraylength, 1) := by decide +kernel
theorem dX5_byteAt_13 : decode cX5_byteAt 13 = .ok (.if_icmp .lt 5, 3) := by decide +kernel
theorem dX5_byteAt_16 : decode cX5_byteAt 16 = .ok (.iconst 0, 1) := by decide +kernel
theorem dX5_byteAt_17 : decode cX5_byteAt 17 = .ok (.ireturn, 1) := by decide +kernel
theorem dX5_byteAt_18 : decode cX5_byteAt 18 = .ok (.aload_n 0, 1) := by decide +kernel
theorem dX5_byteAt_19 : decode cX5_byteAt 19 = .ok (.getfield 15, 3) := by decide +kernel
theorem dX5_byteAt_22 : decode cX5_byteAt 22 = .ok (.iload_n 1, 1) := by decide +kernel
theorem dX5_byteAt_23 : decode cX5_byteAt 23 = .ok (.bipush 8, 2) := by decide +kernel
theorem dX5_byteAt_25 : decode cX5_byteAt 25 = .ok (.idiv, 1) := by decide +kernel
theorem dX5_byteAt_26 : decode cX5_byteAt 26 = .ok (.laload, 1) := by decide +kernel
theorem dX5_byteAt_27 : decode cX5_byteAt 27 = .ok (.bipush 8, 2) := by decide +kernel
theorem dX5_byteAt_29 : decode cX5_byteAt 29 = .ok (.iload_n 1, 1) := by decide +kernel
theorem dX5_byteAt_30 : decode cX5_byteAt 30 = .ok (.bipush 8, 2) := by decide +kernel
theorem dX5_byteAt_32 : decode cX5_byteAt 32 = .ok (.irem, 1) := by decide +kernel
theorem dX5_byteAt_33 : decode cX5_byteAt 33 = .ok (.imul, 1) := by decide +kernel
theorem dX5_byteAt_34 : decode cX5_byteAt 34 = .ok (.lushr, 1) := by decide +kernel
theorem dX5_byteAt_35 : decode cX5_byteAt 35 = .ok (.l2i, 1) := by decide +kernel
theorem dX5_byteAt_36 : decode cX5_byteAt 36 = .ok (.sipush 255, 3) := by decide +kernel
theorem dX5_byteAt_39 : decode cX5_byteAt 39 = .ok (.iand, 1) := by decide +kernel
theorem dX5_byteAt_40 : decode cX5_byteAt 40 = .ok (.ireturn, 1) := by decide +kernel
theorem dX5_put_0 : decode cX5_put 0 = .ok (.iload_n 1, 1) := by decide +kernel
theorem dX5_put_1 : decode cX5_put 1 = .ok (.ifCond .lt 15, 3) := by decide +kernel
theorem dX5_put_4 : decode cX5_put 4 = .ok (.iload_n 1, 1) := by decide +kernel
theorem dX5_put_5 : decode cX5_put 5 = .ok (.bipush 8, 2) := by decide +kernel
theorem dX5_put_7 : decode cX5_put 7 = .ok (.idiv, 1) := by decide +kernel
theorem dX5_put_8 : decode cX5_put 8 = .ok (.aload_n 0, 1) := by decide +kernel
theorem dX5_put_9 : decode cX5_put 9 = .ok (.getfield 15, 3) := by decide +kernel
theorem dX5_put_12 : decode cX5_put 12 = .ok (.arraylength, 1) := by decide +kernel
theorem dX5_put_13 : decode cX5_put 13 = .ok (.if_icmp .lt 4, 3) := by decide +kernel
theorem dX5_put_16 : decode cX5_put 16 = .ok (.return_, 1) := by decide +kernel
theorem dX5_put_17 : decode cX5_put 17 = .ok (.bipush 8, 2) := by decide +kernel
theorem dX5_put_19 : decode cX5_put 19 = .ok (.iload_n 1, 1) := by decide +kernel
theorem dX5_put_20 : decode cX5_put 20 = .ok (.bipush 8, 2) := by decide +kernel
theorem dX5_put_22 : decode cX5_put 22 = .ok (.irem, 1) := by decide +kernel
theorem dX5_put_23 : decode cX5_put 23 = .ok (.imul, 1) := by decide +kernel
theorem dX5_put_24 : decode cX5_put 24 = .ok (.istore_n 3, 1) := by decide +kernel
theorem dX5_put_25 : decode cX5_put 25 = .ok (.aload_n 0, 1) := by decide +kernel
theorem dX5_put_26 : decode cX5_put 26 = .ok (.getfield 15, 3) := by decide +kernel
theorem dX5_put_29 : decode cX5_put 29 = .ok (.iload_n 1, 1) := by decide +kernel
theorem dX5_put_30 : decode cX5_put 30 = .ok (.bipush 8, 2) := by decide +kernel
theorem dX5_put_32 : decode cX5_put 32 = .ok (.idiv, 1) := by decide +kernel
theorem dX5_put_33 : decode cX5_put 33 = .ok (.laload, 1) := by decide +kernel
theorem dX5_put_34 : decode cX5_put 34 = .ok (.ldc2_w 21, 3) := by decide +kernel
theorem dX5_put_37 : decode cX5_put 37 = .ok (.iload_n 3, 1) := by decide +kernel
theorem dX5_put_38 : decode cX5_put 38 = .ok (.lshl, 1) := by decide +kernel
theorem dX5_put_39 : decode cX5_put 39 = .ok (.ldc2_w 23, 3) := by decide +kernel
theorem dX5_put_42 : decode cX5_put 42 = .ok (.lxor, 1) := by decide +kernel
theorem dX5_put_43 : decode cX5_put 43 = .ok (.land, 1) := by decide +kernel
theorem dX5_put_44 : decode cX5_put 44 = .ok (.lstore 4, 2) := by decide +kernel
theorem dX5_put_46 : decode cX5_put 46 = .ok (.aload_n 0, 1) := by decide +kernel
theorem dX5_put_47 : decode cX5_put 47 = .ok (.getfield 15, 3) := by decide +kernel
theorem dX5_put_50 : decode cX5_put 50 = .ok (.iload_n 1, 1) := by decide +kernel
theorem dX5_put_51 : decode cX5_put 51 = .ok (.bipush 8, 2) := by decide +kernel
theorem dX5_put_53 : decode cX5_put 53 = .ok (.idiv, 1) := by decide +kernel
theorem dX5_put_54 : decode cX5_put 54 = .ok (.lload 4, 2) := by decide +kernel
theorem dX5_put_56 : decode cX5_put 56 = .ok (.iload_n 2, 1) := by decide +kernel
theorem dX5_put_57 : decode cX5_put 57 = .ok (.i2l, 1) := by decide +kernel
theorem dX5_put_58 : decode cX5_put 58 = .ok (.ldc2_w 21, 3) := by decide +kernel
theorem dX5_put_61 : decode cX5_put 61 = .ok (.land, 1) := by decide +kernel
theorem dX5_put_62 : decode cX5_put 62 = .ok (.iload_n 3, 1) := by decide +kernel
theorem dX5_put_63 : decode cX5_put 63 = .ok (.lshl, 1) := by decide +kernel
theorem dX5_put_64 : decode cX5_put 64 = .ok (.lor, 1) := by decide +kernel
theorem dX5_put_65 : decode cX5_put 65 = .ok (.lastore, 1) := by decide +kernel
theorem dX5_put_66 : decode cX5_put 66 = .ok (.return_, 1) := by decide +kernel
theorem dX5_clear_0 : decode cX5_clear 0 = .ok (.iload_n 1, 1) := by decide +kernel
theorem dX5_clear_1 : decode cX5_clear 1 = .ok (.ifCond .lt 15, 3) := by decide +kernel
theorem dX5_clear_4 : decode cX5_clear 4 = .ok (.iload_n 2, 1) := by decide +kernel
theorem dX5_clear_5 : decode cX5_clear 5 = .ok (.aload_n 0, 1) := by decide +kernel
theorem dX5_clear_6 : decode cX5_clear 6 = .ok (.getfield 15, 3) := by decide +kernel
theorem dX5_clear_9 : decode cX5_clear 9 = .ok (.arraylength, 1) := by decide +kernel
theorem dX5_clear_10 : decode cX5_clear 10 = .ok (.bipush 8, 2) := by decide +kernel
theorem dX5_clear_12 : decode cX5_clear 12 = .ok (.imul, 1) := by decide +kernel
theorem dX5_clear_13 : decode cX5_clear 13 = .ok (.if_icmp .le 4, 3) := by decide +kernel
theorem dX5_clear_16 : decode cX5_clear 16 = .ok (.return_, 1) := by decide +kernel
theorem dX5_clear_17 : decode cX5_clear 17 = .ok (.iload_n 1, 1) := by decide +kernel
theorem dX5_clear_18 : decode cX5_clear 18 = .ok (.istore_n 3, 1) := by decide +kernel
theorem dX5_clear_19 : decode cX5_clear 19 = .ok (.iload_n 3, 1) := by decide +kernel
theorem dX5_clear_20 : decode cX5_clear 20 = .ok (.iload_n 2, 1) := by decide +kernel
theorem dX5_clear_21 : decode cX5_clear 21 = .ok (.if_icmp .ge 36, 3) := by decide +kernel
theorem dX5_clear_24 : decode cX5_clear 24 = .ok (.aload_n 0, 1) := by decide +kernel
theorem dX5_clear_25 : decode cX5_clear 25 = .ok (.getfield 15, 3) := by decide +kernel
theorem dX5_clear_28 : decode cX5_clear 28 = .ok (.iload_n 3, 1) := by decide +kernel
theorem dX5_clear_29 : decode cX5_clear 29 = .ok (.bipush 8, 2) := by decide +kernel
theorem dX5_clear_31 : decode cX5_clear 31 = .ok (.idiv, 1) := by decide +kernel
theorem dX5_clear_32 : decode cX5_clear 32 = .ok (.dup2, 1) := by decide +kernel
theorem dX5_clear_33 : decode cX5_clear 33 = .ok (.laload, 1) := by decide +kernel
theorem dX5_clear_34 : decode cX5_clear 34 = .ok (.ldc2_w 21, 3) := by decide +kernel
theorem dX5_clear_37 : decode cX5_clear 37 = .ok (.bipush 8, 2) := by decide +kernel
theorem dX5_clear_39 : decode cX5_clear 39 = .ok (.iload_n 3, 1) := by decide +kernel
theorem dX5_clear_40 : decode cX5_clear 40 = .ok (.bipush 8, 2) := by decide +kernel
theorem dX5_clear_42 : decode cX5_clear 42 = .ok (.irem, 1) := by decide +kernel
theorem dX5_clear_43 : decode cX5_clear 43 = .ok (.imul, 1) := by decide +kernel
theorem dX5_clear_44 : decode cX5_clear 44 = .ok (.lshl, 1) := by decide +kernel
theorem dX5_clear_45 : decode cX5_clear 45 = .ok (.ldc2_w 23, 3) := by decide +kernel
theorem dX5_clear_48 : decode cX5_clear 48 = .ok (.lxor, 1) := by decide +kernel
theorem dX5_clear_49 : decode cX5_clear 49 = .ok (.land, 1) := by decide +kernel
theorem dX5_clear_50 : decode cX5_clear 50 = .ok (.lastore, 1) := by decide +kernel
theorem dX5_clear_51 : decode cX5_clear 51 = .ok (.iinc 3 1, 3) := by decide +kernel
theorem dX5_clear_54 : decode cX5_clear 54 = .ok (.goto (-35), 3) := by decide +kernel
theorem dX5_clear_57 : decode cX5_clear 57 = .ok (.return_, 1) := by decide +kernel
theorem dX5_copyPage_0 : decode cX5_copyPage 0 = .ok (.bipush 8, 2) := by decide +kernel
theorem dX5_copyPage_2 : decode cX5_copyPage 2 = .ok (.istore 4, 2) := by decide +kernel
theorem dX5_copyPage_4 : decode cX5_copyPage 4 = .ok (.iload_n 1, 1) := by decide +kernel
theorem dX5_copyPage_5 : decode cX5_copyPage 5 = .ok (.iload 4, 2) := by decide +kernel
theorem dX5_copyPage_7 : decode cX5_copyPage 7 = .ok (.imul, 1) := by decide +kernel
theorem dX5_copyPage_8 : decode cX5_copyPage 8 = .ok (.istore 5, 2) := by decide +kernel
theorem dX5_copyPage_10 : decode cX5_copyPage 10 = .ok (.iload_n 3, 1) := by decide +kernel
theorem dX5_copyPage_11 : decode cX5_copyPage 11 = .ok (.iload 4, 2) := by decide +kernel
theorem dX5_copyPage_13 : decode cX5_copyPage 13 = .ok (.imul, 1) := by decide +kernel
theorem dX5_copyPage_14 : decode cX5_copyPage 14 = .ok (.istore 6, 2) := by decide +kernel
theorem dX5_copyPage_16 : decode cX5_copyPage 16 = .ok (.iload 5, 2) := by decide +kernel
theorem dX5_copyPage_18 : decode cX5_copyPage 18 = .ok (.ifCond .lt 34, 3) := by decide +kernel
theorem dX5_copyPage_21 : decode cX5_copyPage 21 = .ok (.iload 6, 2) := by decide +kernel
theorem dX5_copyPage_23 : decode cX5_copyPage 23 = .ok (.ifCond .lt 29, 3) := by decide +kernel
theorem dX5_copyPage_26 : decode cX5_copyPage 26 = .ok (.iload 5, 2) := by decide +kernel
theorem dX5_copyPage_28 : decode cX5_copyPage 28 = .ok (.iload 4, 2) := by decide +kernel
theorem dX5_copyPage_30 : decode cX5_copyPage 30 = .ok (.iadd, 1) := by decide +kernel
theorem dX5_copyPage_31 : decode cX5_copyPage 31 = .ok (.aload_n 0, 1) := by decide +kernel
theorem dX5_copyPage_32 : decode cX5_copyPage 32 = .ok (.getfield 15, 3) := by decide +kernel
theorem dX5_copyPage_35 : decode cX5_copyPage 35 = .ok (.arraylength, 1) := by decide +kernel
theorem dX5_copyPage_36 : decode cX5_copyPage 36 = .ok (.if_icmp .gt 16, 3) := by decide +kernel
theorem dX5_copyPage_39 : decode cX5_copyPage 39 = .ok (.iload 6, 2) := by decide +kernel
theorem dX5_copyPage_41 : decode cX5_copyPage 41 = .ok (.iload 4, 2) := by decide +kernel
theorem dX5_copyPage_43 : decode cX5_copyPage 43 = .ok (.iadd, 1) := by decide +kernel
theorem dX5_copyPage_44 : decode cX5_copyPage 44 = .ok (.aload_n 2, 1) := by decide +kernel
theorem dX5_copyPage_45 : decode cX5_copyPage 45 = .ok (.getfield 15, 3) := by decide +kernel
theorem dX5_copyPage_48 : decode cX5_copyPage 48 = .ok (.arraylength, 1) := by decide +kernel
theorem dX5_copyPage_49 : decode cX5_copyPage 49 = .ok (.if_icmp .le 4, 3) := by decide +kernel
theorem dX5_copyPage_52 : decode cX5_copyPage 52 = .ok (.return_, 1) := by decide +kernel
theorem dX5_copyPage_53 : decode cX5_copyPage 53 = .ok (.iconst 0, 1) := by decide +kernel
theorem dX5_copyPage_54 : decode cX5_copyPage 54 = .ok (.istore 7, 2) := by decide +kernel
theorem dX5_copyPage_56 : decode cX5_copyPage 56 = .ok (.iload 7, 2) := by decide +kernel
theorem dX5_copyPage_58 : decode cX5_copyPage 58 = .ok (.iload 4, 2) := by decide +kernel
theorem dX5_copyPage_60 : decode cX5_copyPage 60 = .ok (.if_icmp .ge 29, 3) := by decide +kernel
theorem dX5_copyPage_63 : decode cX5_copyPage 63 = .ok (.aload_n 0, 1) := by decide +kernel
theorem dX5_copyPage_64 : decode cX5_copyPage 64 = .ok (.getfield 15, 3) := by decide +kernel
theorem dX5_copyPage_67 : decode cX5_copyPage 67 = .ok (.iload 5, 2) := by decide +kernel
theorem dX5_copyPage_69 : decode cX5_copyPage 69 = .ok (.iload 7, 2) := by decide +kernel
theorem dX5_copyPage_71 : decode cX5_copyPage 71 = .ok (.iadd, 1) := by decide +kernel
theorem dX5_copyPage_72 : decode cX5_copyPage 72 = .ok (.aload_n 2, 1) := by decide +kernel
theorem dX5_copyPage_73 : decode cX5_copyPage 73 = .ok (.getfield 15, 3) := by decide +kernel
theorem dX5_copyPage_76 : decode cX5_copyPage 76 = .ok (.iload 6, 2) := by decide +kernel
theorem dX5_copyPage_78 : decode cX5_copyPage 78 = .ok (.iload 7, 2) := by decide +kernel
theorem dX5_copyPage_80 : decode cX5_copyPage 80 = .ok (.iadd, 1) := by decide +kernel
theorem dX5_copyPage_81 : decode cX5_copyPage 81 = .ok (.laload, 1) := by decide +kernel
theorem dX5_copyPage_82 : decode cX5_copyPage 82 = .ok (.lastore, 1) := by decide +kernel
theorem dX5_copyPage_83 : decode cX5_copyPage 83 = .ok (.iinc 7 1, 3) := by decide +kernel
theorem dX5_copyPage_86 : decode cX5_copyPage 86 = .ok (.goto (-30), 3) := by decide +kernel
theorem dX5_copyPage_89 : decode cX5_copyPage 89 = .ok (.return_, 1) := by decide +kernel
theorem dX6_init_0 : decode cX6_init 0 = .ok (.aload_n 0, 1) := by decide +kernel
theorem dX6_init_1 : decode cX6_init 1 = .ok (.invokespecial 3, 3) := by decide +kernel
theorem dX6_init_4 : decode cX6_init 4 = .ok (.aload_n 0, 1) := by decide +kernel
theorem dX6_init_5 : decode cX6_init 5 = .ok (.sipush 3072, 3) := by decide +kernel
theorem dX6_init_8 : decode cX6_init 8 = .ok (.newarray .int, 2) := by decide +kernel
theorem dX6_init_10 : decode cX6_init 10 = .ok (.putfield 9, 3) := by decide +kernel
theorem dX6_init_13 : decode cX6_init 13 = .ok (.aload_n 0, 1) := by decide +kernel
theorem dX6_init_14 : decode cX6_init 14 = .ok (.new 13, 3) := by decide +kernel
theorem dX6_init_17 : decode cX6_init 17 = .ok (.dup, 1) := by decide +kernel
theorem dX6_init_18 : decode cX6_init 18 = .ok (.sipush 1024, 3) := by decide +kernel
theorem dX6_init_21 : decode cX6_init 21 = .ok (.invokespecial 15, 3) := by decide +kernel
theorem dX6_init_24 : decode cX6_init 24 = .ok (.putfield 18, 3) := by decide +kernel
theorem dX6_init_27 : decode cX6_init 27 = .ok (.aload_n 0, 1) := by decide +kernel
theorem dX6_init_28 : decode cX6_init 28 = .ok (.new 13, 3) := by decide +kernel
theorem dX6_init_31 : decode cX6_init 31 = .ok (.dup, 1) := by decide +kernel
theorem dX6_init_32 : decode cX6_init 32 = .ok (.sipush 1024, 3) := by decide +kernel
theorem dX6_init_35 : decode cX6_init 35 = .ok (.invokespecial 15, 3) := by decide +kernel
theorem dX6_init_38 : decode cX6_init 38 = .ok (.putfield 22, 3) := by decide +kernel
theorem dX6_init_41 : decode cX6_init 41 = .ok (.aload_n 0, 1) := by decide +kernel
theorem dX6_init_42 : decode cX6_init 42 = .ok (.iconst 0, 1) := by decide +kernel
theorem dX6_init_43 : decode cX6_init 43 = .ok (.putfield 25, 3) := by decide +kernel
theorem dX6_init_46 : decode cX6_init 46 = .ok (.aload_n 0, 1) := by decide +kernel
theorem dX6_init_47 : decode cX6_init 47 = .ok (.iconst 0, 1) := by decide +kernel
theorem dX6_init_48 : decode cX6_init 48 = .ok (.putfield 29, 3) := by decide +kernel
theorem dX6_init_51 : decode cX6_init 51 = .ok (.iload_n 1, 1) := by decide +kernel
theorem dX6_init_52 : decode cX6_init 52 = .ok (.iconst 4, 1) := by decide +kernel
theorem dX6_init_53 : decode cX6_init 53 = .ok (.if_icmp .lt 9, 3) := by decide +kernel
theorem dX6_init_56 : decode cX6_init 56 = .ok (.iload_n 1, 1) := by decide +kernel
theorem dX6_init_57 : decode cX6_init 57 = .ok (.bipush 64, 2) := by decide +kernel
theorem dX6_init_59 : decode cX6_init 59 = .ok (.if_icmp .le 8, 3) := by decide +kernel
theorem dX6_init_62 : decode cX6_init 62 = .ok (.bipush 16, 2) := by decide +kernel
theorem dX6_init_64 : decode cX6_init 64 = .ok (.goto 4, 3) := by decide +kernel
theorem dX6_init_67 : decode cX6_init 67 = .ok (.iload_n 1, 1) := by decide +kernel
theorem dX6_init_68 : decode cX6_init 68 = .ok (.istore_n 3, 1) := by decide +kernel
theorem dX6_init_69 : decode cX6_init 69 = .ok (.iload_n 2, 1) := by decide +kernel
theorem dX6_init_70 : decode cX6_init 70 = .ok (.bipush 8, 2) := by decide +kernel
theorem dX6_init_72 : decode cX6_init 72 = .ok (.if_icmp .lt 10, 3) := by decide +kernel
theorem dX6_init_75 : decode cX6_init 75 = .ok (.iload_n 2, 1) := by decide +kernel
theorem dX6_init_76 : decode cX6_init 76 = .ok (.sipush 512, 3) := by decide +kernel
theorem dX6_init_79 : decode cX6_init 79 = .ok (.if_icmp .le 9, 3) := by decide +kernel
theorem dX6_init_82 : decode cX6_init 82 = .ok (.sipush 128, 3) := by decide +kernel
theorem dX6_init_85 : decode cX6_init 85 = .ok (.goto 4, 3) := by decide +kernel
theorem dX6_init_88 : decode cX6_init 88 = .ok (.iload_n 2, 1) := by decide +kernel
theorem dX6_init_89 : decode cX6_init 89 = .ok (.istore 4, 2) := by decide +kernel
theorem dX6_init_91 : decode cX6_init 91 = .ok (.aload_n 0, 1) := by decide +kernel
theorem dX6_init_92 : decode cX6_init 92 = .ok (.new 32, 3) := by decide +kernel
theorem dX6_init_95 : decode cX6_init 95 = .ok (.dup, 1) := by decide +kernel
theorem dX6_init_96 : decode cX6_init 96 = .ok (.iload 4, 2) := by decide +kernel
theorem dX6_init_98 : decode cX6_init 98 = .ok (.invokespecial 34, 3) := by decide +kernel
theorem dX6_init_101 : decode cX6_init 101 = .ok (.putfield 35, 3) := by decide +kernel
theorem dX6_init_104 : decode cX6_init 104 = .ok (.aload_n 0, 1) := by decide +kernel
theorem dX6_init_105 : decode cX6_init 105 = .ok (.new 39, 3) := by decide +kernel
theorem dX6_init_108 : decode cX6_init 108 = .ok (.dup, 1) := by decide +kernel
theorem dX6_init_109 : decode cX6_init 109 = .ok (.invokespecial 41, 3) := by decide +kernel
theorem dX6_init_112 : decode cX6_init 112 = .ok (.putfield 42, 3) := by decide +kernel
theorem dX6_init_115 : decode cX6_init 115 = .ok (.aload_n 0, 1) := by decide +kernel
theorem dX6_init_116 : decode cX6_init 116 = .ok (.new 46, 3) := by decide +kernel
theorem dX6_init_119 : decode cX6_init 119 = .ok (.dup, 1) := by decide +kernel
theorem dX6_init_120 : decode cX6_init 120 = .ok (.iload_n 3, 1) := by decide +kernel
theorem dX6_init_121 : decode cX6_init 121 = .ok (.invokespecial 48, 3) := by decide +kernel
theorem dX6_init_124 : decode cX6_init 124 = .ok (.putfield 49, 3) := by decide +kernel
theorem dX6_init_127 : decode cX6_init 127 = .ok (.aload_n 0, 1) := by decide +kernel
theorem dX6_init_128 : decode cX6_init 128 = .ok (.new 53, 3) := by decide +kernel
theorem dX6_init_131 : decode cX6_init 131 = .ok (.dup, 1) := by decide +kernel
theorem dX6_init_132 : decode cX6_init 132 = .ok (.iload_n 3, 1) := by decide +kernel
theorem dX6_init_133 : decode cX6_init 133 = .ok (.invokespecial 55, 3) := by decide +kernel
theorem dX6_init_136 : decode cX6_init 136 = .ok (.putfield 56, 3) := by decide +kernel
theorem dX6_init_139 : decode cX6_init 139 = .ok (.aload_n 0, 1) := by decide +kernel
theorem dX6_init_140 : decode cX6_init 140 = .ok (.getfield 9, 3) := by decide +kernel
theorem dX6_init_143 : decode cX6_init 143 = .ok (.iconst (-1), 1) := by decide +kernel
theorem dX6_init_144 : decode cX6_init 144 = .ok (.invokestatic 60, 3) := by decide +kernel
theorem dX6_init_147 : decode cX6_init 147 = .ok (.return_, 1) := by decide +kernel
theorem dX6_read_0 : decode cX6_read 0 = .ok (.iload_n 1, 1) := by decide +kernel
theorem dX6_read_1 : decode cX6_read 1 = .ok (.invokestatic 66, 3) := by decide +kernel
theorem dX6_read_4 : decode cX6_read 4 = .ok (.ifCond .eq 19, 3) := by decide +kernel
theorem dX6_read_7 : decode cX6_read 7 = .ok (.iload_n 2, 1) := by decide +kernel
theorem dX6_read_8 : decode cX6_read 8 = .ok (.ifCond .lt 15, 3) := by decide +kernel
theorem dX6_read_11 : decode cX6_read 11 = .ok (.iload_n 3, 1) := by decide +kernel
theorem dX6_read_12 : decode cX6_read 12 = .ok (.iconst 1, 1) := by decide +kernel
theorem dX6_read_13 : decode cX6_read 13 = .ok (.if_icmp .lt 10, 3) := by decide +kernel
theorem dX6_read_16 : decode cX6_read 16 = .ok (.iload_n 3, 1) := by decide +kernel
theorem dX6_read_17 : decode cX6_read 17 = .ok (.sipush 1024, 3) := by decide +kernel
theorem dX6_read_20 : decode cX6_read 20 = .ok (.if_icmp .le 6, 3) := by decide +kernel
theorem dX6_read_23 : decode cX6_read 23 = .ok (.bipush (-2), 2) := by decide +kernel
theorem dX6_read_25 : decode cX6_read 25 = .ok (.ireturn, 1) := by decide +kernel
theorem dX6_read_26 : decode cX6_read 26 = .ok (.aload_n 0, 1) := by decide +kernel
theorem dX6_read_27 : decode cX6_read 27 = .ok (.getfield 35, 3) := by decide +kernel
theorem dX6_read_30 : decode cX6_read 30 = .ok (.invokevirtual 70, 3) := by decide +kernel
theorem dX6_read_33 : decode cX6_read 33 = .ok (.aload_n 0, 1) := by decide +kernel
theorem dX6_read_34 : decode cX6_read 34 = .ok (.getfield 42, 3) := by decide +kernel
theorem dX6_read_37 : decode cX6_read 37 = .ok (.getfield 73, 3) := by decide +kernel
theorem dX6_read_40 : decode cX6_read 40 = .ok (.iload_n 1, 1) := by decide +kernel
theorem dX6_read_41 : decode cX6_read 41 = .ok (.iaload, 1) := by decide +kernel
theorem dX6_read_42 : decode cX6_read 42 = .ok (.istore 4, 2) := by decide +kernel
theorem dX6_read_44 : decode cX6_read 44 = .ok (.iload_n 2, 1) := by decide +kernel
theorem dX6_read_45 : decode cX6_read 45 = .ok (.iload 4, 2) := by decide +kernel
theorem dX6_read_47 : decode cX6_read 47 = .ok (.if_icmp .lt 10, 3) := by decide +kernel
theorem dX6_read_50 : decode cX6_read 50 = .ok (.aload_n 0, 1) := by decide +kernel
theorem dX6_read_51 : decode cX6_read 51 = .ok (.iconst 0, 1) := by decide +kernel
theorem dX6_read_52 : decode cX6_read 52 = .ok (.putfield 25, 3) := by decide +kernel
theorem dX6_read_55 : decode cX6_read 55 = .ok (.iconst 0, 1) := by decide +kernel
theorem dX6_read_56 : decode cX6_read 56 = .ok (.ireturn, 1) := by decide +kernel
theorem dX6_read_57 : decode cX6_read 57 = .ok (.iload_n 2, 1) := by decide +kernel
theorem dX6_read_58 : decode cX6_read 58 = .ok (.iload_n 3, 1) := by decide +kernel
theorem dX6_read_59 : decode cX6_read 59 = .ok (.iadd, 1) := by decide +kernel
theorem dX6_read_60 : decode cX6_read 60 = .ok (.iload 4, 2) := by decide +kernel
theorem dX6_read_62 : decode cX6_read 62 = .ok (.invokestatic 76, 3) := by decide +kernel
theorem dX6_read_65 : decode cX6_read 65 = .ok (.istore 5, 2) := by decide +kernel
theorem dX6_read_67 : decode cX6_read 67 = .ok (.iconst 0, 1) := by decide +kernel
theorem dX6_read_68 : decode cX6_read 68 = .ok (.istore 6, 2) := by decide +kernel
theorem dX6_read_70 : decode cX6_read 70 = .ok (.iload_n 2, 1) := by decide +kernel
theorem dX6_read_71 : decode cX6_read 71 = .ok (.bipush 64, 2) := by decide +kernel
theorem dX6_read_73 : decode cX6_read 73 = .ok (.idiv, 1) := by decide +kernel
theorem dX6_read_74 : decode cX6_read 74 = .ok (.istore 7, 2) := by decide +kernel
theorem dX6_read_76 : decode cX6_read 76 = .ok (.iload 7, 2) := by decide +kernel
theorem dX6_read_78 : decode cX6_read 78 = .ok (.bipush 64, 2) := by decide +kernel
theorem dX6_read_80 : decode cX6_read 80 = .ok (.imul, 1) := by decide +kernel
theorem dX6_read_81 : decode cX6_read 81 = .ok (.iload 5, 2) := by decide +kernel
theorem dX6_read_83 : decode cX6_read 83 = .ok (.if_icmp .ge 52, 3) := by decide +kernel
theorem dX6_read_86 : decode cX6_read 86 = .ok (.aload_n 0, 1) := by decide +kernel
theorem dX6_read_87 : decode cX6_read 87 = .ok (.iload_n 1, 1) := by decide +kernel
theorem dX6_read_88 : decode cX6_read 88 = .ok (.iload 7, 2) := by decide +kernel
theorem dX6_read_90 : decode cX6_read 90 = .ok (.iload_n 2, 1) := by decide +kernel
theorem dX6_read_91 : decode cX6_read 91 = .ok (.iload 5, 2) := by decide +kernel
theorem dX6_read_93 : decode cX6_read 93 = .ok (.invokevirtual 82, 3) := by decide +kernel
theorem dX6_read_96 : decode cX6_read 96 = .ok (.istore 8, 2) := by decide +kernel
theorem dX6_read_98 : decode cX6_read 98 = .ok (.iload 8, 2) := by decide +kernel
theorem dX6_read_100 : decode cX6_read 100 = .ok (.iconst (-1), 1) := by decide +kernel
theorem dX6_read_101 : decode cX6_read 101 = .ok (.if_icmp .ne 16, 3) := by decide +kernel
theorem dX6_read_104 : decode cX6_read 104 = .ok (.iload 6, 2) := by decide +kernel
theorem dX6_read_106 : decode cX6_read 106 = .ok (.ifCond .ne 8, 3) := by decide +kernel
theorem dX6_read_109 : decode cX6_read 109 = .ok (.bipush (-3), 2) := by decide +kernel
theorem dX6_read_111 : decode cX6_read 111 = .ok (.goto 5, 3) := by decide +kernel
theorem dX6_read_114 : decode cX6_read 114 = .ok (.iload 6, 2) := by decide +kernel
theorem dX6_read_116 : decode cX6_read 116 = .ok (.ireturn, 1) := by decide +kernel
theorem dX6_read_117 : decode cX6_read 117 = .ok (.iload 8, 2) := by decide +kernel
theorem dX6_read_119 : decode cX6_read 119 = .ok (.iload_n 2, 1) := by decide +kernel
theorem dX6_read_120 : decode cX6_read 120 = .ok (.isub, 1) := by decide +kernel
theorem dX6_read_121 : decode cX6_read 121 = .ok (.istore 6, 2) := by decide +kernel
theorem dX6_read_123 : decode cX6_read 123 = .ok (.aload_n 0, 1) := by decide +kernel
theorem dX6_read_124 : decode cX6_read 124 = .ok (.iload 6, 2) := by decide +kernel
theorem dX6_read_126 : decode cX6_read 126 = .ok (.putfield 25, 3) := by decide +kernel
theorem dX6_read_129 : decode cX6_read 129 = .ok (.iinc 7 1, 3) := by decide +kernel
theorem dX6_read_132 : decode cX6_read 132 = .ok (.goto (-56), 3) := by decide +kernel
theorem dX6_read_135 : decode cX6_read 135 = .ok (.iload 6, 2) := by decide +kernel
theorem dX6_read_137 : decode cX6_read 137 = .ok (.ireturn, 1) := by decide +kernel
theorem dX6_hand_0 : decode cX6_hand 0 = .ok (.iload_n 1, 1) := by decide +kernel
theorem dX6_hand_1 : decode cX6_hand 1 = .ok (.ifCond .lt 11, 3) := by decide +kernel
theorem dX6_hand_4 : decode cX6_hand 4 = .ok (.iload_n 1, 1) := by decide +kernel
theorem dX6_hand_5 : decode cX6_hand 5 = .ok (.aload_n 0, 1) := by decide +kernel
theorem dX6_hand_6 : decode cX6_hand 6 = .ok (.getfield 25, 3) := by decide +kernel
theorem dX6_hand_9 : decode cX6_hand 9 = .ok (.if_icmp .lt 7, 3) := by decide +kernel
theorem dX6_hand_12 : decode cX6_hand 12 = .ok (.iconst (-1), 1) := by decide +kernel
theorem dX6_hand_13 : decode cX6_hand 13 = .ok (.goto 11, 3) := by decide +kernel
theorem dX6_hand_16 : decode cX6_hand 16 = .ok (.aload_n 0, 1) := by decide +kernel
theorem dX6_hand_17 : decode cX6_hand 17 = .ok (.getfield 18, 3) := by decide +kernel
theorem dX6_hand_20 : decode cX6_hand 20 = .ok (.iload_n 1, 1) := by decide +kernel
theorem dX6_hand_21 : decode cX6_hand 21 = .ok (.invokevirtual 86, 3) := by decide +kernel
theorem dX6_hand_24 : decode cX6_hand 24 = .ok (.ireturn, 1) := by decide +kernel
theorem dX6_write_0 : decode cX6_write 0 = .ok (.iload 5, 2) := by decide +kernel
theorem dX6_write_2 : decode cX6_write 2 = .ok (.iconst 1, 1) := by decide +kernel
theorem dX6_write_3 : decode cX6_write 3 = .ok (.if_icmp .lt 20, 3) := by decide +kernel
theorem dX6_write_6 : decode cX6_write 6 = .ok (.iload 5, 2) := by decide +kernel
theorem dX6_write_8 : decode cX6_write 8 = .ok (.bipush 8, 2) := by decide +kernel
theorem dX6_write_10 : decode cX6_write 10 = .ok (.if_icmp .gt 13, 3) := by decide +kernel
theorem dX6_write_13 : decode cX6_write 13 = .ok (.iload_n 1, 1) := by decide +kernel
theorem dX6_write_14 : decode cX6_write 14 = .ok (.iload_n 2, 1) := by decide +kernel
theorem dX6_write_15 : decode cX6_write 15 = .ok (.iload 5, 2) := by decide +kernel
theorem dX6_write_17 : decode cX6_write 17 = .ok (.invokestatic 90, 3) := by decide +kernel
theorem dX6_write_20 : decode cX6_write 20 = .ok (.ifCond .ne 6, 3) := by decide +kernel
theorem dX6_write_23 : decode cX6_write 23 = .ok (.bipush (-2), 2) := by decide +kernel
theorem dX6_write_25 : decode cX6_write 25 = .ok (.ireturn, 1) := by decide +kernel
theorem dX6_write_26 : decode cX6_write 26 = .ok (.iconst 0, 1) := by decide +kernel
theorem dX6_write_27 : decode cX6_write 27 = .ok (.istore 6, 2) := by decide +kernel
theorem dX6_write_29 : decode cX6_write 29 = .ok (.iload 6, 2) := by decide +kernel
theorem dX6_write_31 : decode cX6_write 31 = .ok (.iload 5, 2) := by decide +kernel
theorem dX6_write_33 : decode cX6_write 33 = .ok (.if_icmp .ge 26, 3) := by decide +kernel
theorem dX6_write_36 : decode cX6_write 36 = .ok (.aload_n 0, 1) := by decide +kernel
theorem dX6_write_37 : decode cX6_write 37 = .ok (.getfield 22, 3) := by decide +kernel
theorem dX6_write_40 : decode cX6_write 40 = .ok (.iload 6, 2) := by decide +kernel
theorem dX6_write_42 : decode cX6_write 42 = .ok (.lload_n 3, 1) := by decide +kernel
theorem dX6_write_43 : decode cX6_write 43 = .ok (.bipush 8, 2) := by decide +kernel
theorem dX6_write_45 : decode cX6_write 45 = .ok (.iload 6, 2) := by decide +kernel
theorem dX6_write_47 : decode cX6_write 47 = .ok (.imul, 1) := by decide +kernel
theorem dX6_write_48 : decode cX6_write 48 = .ok (.lushr, 1) := by decide +kernel
theorem dX6_write_49 : decode cX6_write 49 = .ok (.l2i, 1) := by decide +kernel
theorem dX6_write_50 : decode cX6_write 50 = .ok (.invokevirtual 94, 3) := by decide +kernel
theorem dX6_write_53 : decode cX6_write 53 = .ok (.iinc 6 1, 3) := by decide +kernel
theorem dX6_write_56 : decode cX6_write 56 = .ok (.goto (-27), 3) := by decide +kernel
theorem dX6_write_59 : decode cX6_write 59 = .ok (.aload_n 0, 1) := by decide +kernel
theorem dX6_write_60 : decode cX6_write 60 = .ok (.iload_n 1, 1) := by decide +kernel
theorem dX6_write_61 : decode cX6_write 61 = .ok (.iload_n 2, 1) := by decide +kernel
theorem dX6_write_62 : decode cX6_write 62 = .ok (.iload 5, 2) := by decide +kernel
theorem dX6_write_64 : decode cX6_write 64 = .ok (.invokevirtual 98, 3) := by decide +kernel
theorem dX6_write_67 : decode cX6_write 67 = .ok (.ireturn, 1) := by decide +kernel
theorem dX6_fill_0 : decode cX6_fill 0 = .ok (.iload_n 3, 1) := by decide +kernel
theorem dX6_fill_1 : decode cX6_fill 1 = .ok (.iconst 1, 1) := by decide +kernel
theorem dX6_fill_2 : decode cX6_fill 2 = .ok (.if_icmp .lt 19, 3) := by decide +kernel
theorem dX6_fill_5 : decode cX6_fill 5 = .ok (.iload_n 3, 1) := by decide +kernel
theorem dX6_fill_6 : decode cX6_fill 6 = .ok (.sipush 1024, 3) := by decide +kernel
theorem dX6_fill_9 : decode cX6_fill 9 = .ok (.if_icmp .gt 12, 3) := by decide +kernel
theorem dX6_fill_12 : decode cX6_fill 12 = .ok (.iload_n 1, 1) := by decide +kernel
theorem dX6_fill_13 : decode cX6_fill 13 = .ok (.iload_n 2, 1) := by decide +kernel
theorem dX6_fill_14 : decode cX6_fill 14 = .ok (.iload_n 3, 1) := by decide +kernel
theorem dX6_fill_15 : decode cX6_fill 15 = .ok (.invokestatic 90, 3) := by decide +kernel
theorem dX6_fill_18 : decode cX6_fill 18 = .ok (.ifCond .ne 6, 3) := by decide +kernel
theorem dX6_fill_21 : decode cX6_fill 21 = .ok (.bipush (-2), 2) := by decide +kernel
theorem dX6_fill_23 : decode cX6_fill 23 = .ok (.ireturn, 1) := by decide +kernel
theorem dX6_fill_24 : decode cX6_fill 24 = .ok (.iconst 0, 1) := by decide +kernel
theorem dX6_fill_25 : decode cX6_fill 25 = .ok (.istore 5, 2) := by decide +kernel
theorem dX6_fill_27 : decode cX6_fill 27 = .ok (.iload 5, 2) := by decide +kernel
theorem dX6_fill_29 : decode cX6_fill 29 = .ok (.iload_n 3, 1) := by decide +kernel
theorem dX6_fill_30 : decode cX6_fill 30 = .ok (.if_icmp .ge 25, 3) := by decide +kernel
theorem dX6_fill_33 : decode cX6_fill 33 = .ok (.aload_n 0, 1) := by decide +kernel
theorem dX6_fill_34 : decode cX6_fill 34 = .ok (.getfield 22, 3) := by decide +kernel
theorem dX6_fill_37 : decode cX6_fill 37 = .ok (.iload 5, 2) := by decide +kernel
theorem dX6_fill_39 : decode cX6_fill 39 = .ok (.iload 4, 2) := by decide +kernel
theorem dX6_fill_41 : decode cX6_fill 41 = .ok (.iconst 3, 1) := by decide +kernel
theorem dX6_fill_42 : decode cX6_fill 42 = .ok (.iload 5, 2) := by decide +kernel
theorem dX6_fill_44 : decode cX6_fill 44 = .ok (.imul, 1) := by decide +kernel
theorem dX6_fill_45 : decode cX6_fill 45 = .ok (.iadd, 1) := by decide +kernel
theorem dX6_fill_46 : decode cX6_fill 46 = .ok (.invokevirtual 94, 3) := by decide +kernel
theorem dX6_fill_49 : decode cX6_fill 49 = .ok (.iinc 5 1, 3) := by decide +kernel
theorem dX6_fill_52 : decode cX6_fill 52 = .ok (.goto (-25), 3) := by decide +kernel
theorem dX6_fill_55 : decode cX6_fill 55 = .ok (.aload_n 0, 1) := by decide +kernel
theorem dX6_fill_56 : decode cX6_fill 56 = .ok (.iload_n 1, 1) := by decide +kernel
theorem dX6_fill_57 : decode cX6_fill 57 = .ok (.iload_n 2, 1) := by decide +kernel
theorem dX6_fill_58 : decode cX6_fill 58 = .ok (.iload_n 3, 1) := by decide +kernel
theorem dX6_fill_59 : decode cX6_fill 59 = .ok (.invokevirtual 98, 3) := by decide +kernel
theorem dX6_fill_62 : decode cX6_fill 62 = .ok (.ireturn, 1) := by decide +kernel
theorem dX6_truncate_0 : decode cX6_truncate 0 = .ok (.iload_n 1, 1) := by decide +kernel
theorem dX6_truncate_1 : decode cX6_truncate 1 = .ok (.invokestatic 66, 3) := by decide +kernel
theorem dX6_truncate_4 : decode cX6_truncate 4 = .ok (.ifCond .eq 14, 3) := by decide +kernel
theorem dX6_truncate_7 : decode cX6_truncate 7 = .ok (.iload_n 2, 1) := by decide +kernel
theorem dX6_truncate_8 : decode cX6_truncate 8 = .ok (.ifCond .lt 10, 3) := by decide +kernel
theorem dX6_truncate_11 : decode cX6_truncate 11 = .ok (.iload_n 2, 1) := by decide +kernel
theorem dX6_truncate_12 : decode cX6_truncate 12 = .ok (.sipush 16384, 3) := by decide +kernel
theorem dX6_truncate_15 : decode cX6_truncate 15 = .ok (.if_icmp .le 6, 3) := by decide +kernel
theorem dX6_truncate_18 : decode cX6_truncate 18 = .ok (.bipush (-2), 2) := by decide +kernel
theorem dX6_truncate_20 : decode cX6_truncate 20 = .ok (.ireturn, 1) := by decide +kernel
theorem dX6_truncate_21 : decode cX6_truncate 21 = .ok (.aload_n 0, 1) := by decide +kernel
theorem dX6_truncate_22 : decode cX6_truncate 22 = .ok (.getfield 35, 3) := by decide +kernel
theorem dX6_truncate_25 : decode cX6_truncate 25 = .ok (.invokevirtual 70, 3) := by decide +kernel
theorem dX6_truncate_28 : decode cX6_truncate 28 = .ok (.aload_n 0, 1) := by decide +kernel
theorem dX6_truncate_29 : decode cX6_truncate 29 = .ok (.getfield 42, 3) := by decide +kernel
theorem dX6_truncate_32 : decode cX6_truncate 32 = .ok (.getfield 73, 3) := by decide +kernel
theorem dX6_truncate_35 : decode cX6_truncate 35 = .ok (.iload_n 1, 1) := by decide +kernel
theorem dX6_truncate_36 : decode cX6_truncate 36 = .ok (.iaload, 1) := by decide +kernel
theorem dX6_truncate_37 : decode cX6_truncate 37 = .ok (.istore_n 3, 1) := by decide +kernel
theorem dX6_truncate_38 : decode cX6_truncate 38 = .ok (.aload_n 0, 1) := by decide +kernel
theorem dX6_truncate_39 : decode cX6_truncate 39 = .ok (.getfield 42, 3) := by decide +kernel
theorem dX6_truncate_42 : decode cX6_truncate 42 = .ok (.getfield 73, 3) := by decide +kernel
theorem dX6_truncate_45 : decode cX6_truncate 45 = .ok (.iload_n 1, 1) := by decide +kernel
theorem dX6_truncate_46 : decode cX6_truncate 46 = .ok (.iload_n 2, 1) := by decide +kernel
theorem dX6_truncate_47 : decode cX6_truncate 47 = .ok (.iastore, 1) := by decide +kernel
theorem dX6_truncate_48 : decode cX6_truncate 48 = .ok (.iload_n 2, 1) := by decide +kernel
theorem dX6_truncate_49 : decode cX6_truncate 49 = .ok (.iload_n 3, 1) := by decide +kernel
theorem dX6_truncate_50 : decode cX6_truncate 50 = .ok (.if_icmp .lt 5, 3) := by decide +kernel
theorem dX6_truncate_53 : decode cX6_truncate 53 = .ok (.iload_n 3, 1) := by decide +kernel
theorem dX6_truncate_54 : decode cX6_truncate 54 = .ok (.ireturn, 1) := by decide +kernel
theorem dX6_truncate_55 : decode cX6_truncate 55 = .ok (.iload_n 2, 1) := by decide +kernel
theorem dX6_truncate_56 : decode cX6_truncate 56 = .ok (.invokestatic 102, 3) := by decide +kernel
theorem dX6_truncate_59 : decode cX6_truncate 59 = .ok (.istore 4, 2) := by decide +kernel
theorem dX6_truncate_61 : decode cX6_truncate 61 = .ok (.iload 4, 2) := by decide +kernel
theorem dX6_truncate_63 : decode cX6_truncate 63 = .ok (.sipush 256, 3) := by decide +kernel
theorem dX6_truncate_66 : decode cX6_truncate 66 = .ok (.if_icmp .ge 20, 3) := by decide +kernel
theorem dX6_truncate_69 : decode cX6_truncate 69 = .ok (.aload_n 0, 1) := by decide +kernel
theorem dX6_truncate_70 : decode cX6_truncate 70 = .ok (.iload_n 1, 1) := by decide +kernel
theorem dX6_truncate_71 : decode cX6_truncate 71 = .ok (.iload 4, 2) := by decide +kernel
theorem dX6_truncate_73 : decode cX6_truncate 73 = .ok (.invokestatic 105, 3) := by decide +kernel
theorem dX6_truncate_76 : decode cX6_truncate 76 = .ok (.invokevirtual 108, 3) := by decide +kernel
theorem dX6_truncate_79 : decode cX6_truncate 79 = .ok (.pop, 1) := by decide +kernel
theorem dX6_truncate_80 : decode cX6_truncate 80 = .ok (.iinc 4 1, 3) := by decide +kernel
theorem dX6_truncate_83 : decode cX6_truncate 83 = .ok (.goto (-22), 3) := by decide +kernel
theorem dX6_truncate_86 : decode cX6_truncate 86 = .ok (.aload_n 0, 1) := by decide +kernel
theorem dX6_truncate_87 : decode cX6_truncate 87 = .ok (.iload_n 1, 1) := by decide +kernel
theorem dX6_truncate_88 : decode cX6_truncate 88 = .ok (.iload_n 2, 1) := by decide +kernel
theorem dX6_truncate_89 : decode cX6_truncate 89 = .ok (.invokevirtual 111, 3) := by decide +kernel
theorem dX6_truncate_92 : decode cX6_truncate 92 = .ok (.ifCond .eq 7, 3) := by decide +kernel
theorem dX6_truncate_95 : decode cX6_truncate 95 = .ok (.iload_n 3, 1) := by decide +kernel
theorem dX6_truncate_96 : decode cX6_truncate 96 = .ok (.goto 5, 3) := by decide +kernel
theorem dX6_truncate_99 : decode cX6_truncate 99 = .ok (.bipush (-3), 2) := by decide +kernel
theorem dX6_truncate_101 : decode cX6_truncate 101 = .ok (.ireturn, 1) := by decide +kernel
theorem dX6_punch_0 : decode cX6_punch 0 = .ok (.iload_n 1, 1) := by decide +kernel
theorem dX6_punch_1 : decode cX6_punch 1 = .ok (.invokestatic 66, 3) := by decide +kernel
theorem dX6_punch_4 : decode cX6_punch 4 = .ok (.ifCond .eq 22, 3) := by decide +kernel
theorem dX6_punch_7 : decode cX6_punch 7 = .ok (.iload_n 2, 1) := by decide +kernel
theorem dX6_punch_8 : decode cX6_punch 8 = .ok (.invokestatic 115, 3) := by decide +kernel
theorem dX6_punch_11 : decode cX6_punch 11 = .ok (.ifCond .eq 15, 3) := by decide +kernel
theorem dX6_punch_14 : decode cX6_punch 14 = .ok (.iload_n 3, 1) := by decide +kernel
theorem dX6_punch_15 : decode cX6_punch 15 = .ok (.iconst 1, 1) := by decide +kernel
theorem dX6_punch_16 : decode cX6_punch 16 = .ok (.if_icmp .lt 10, 3) := by decide +kernel
theorem dX6_punch_19 : decode cX6_punch 19 = .ok (.iload_n 3, 1) := by decide +kernel
theorem dX6_punch_20 : decode cX6_punch 20 = .ok (.sipush 256, 3) := by decide +kernel
theorem dX6_punch_23 : decode cX6_punch 23 = .ok (.if_icmp .le 6, 3) := by decide +kernel
theorem dX6_punch_26 : decode cX6_punch 26 = .ok (.bipush (-2), 2) := by decide +kernel
theorem dX6_punch_28 : decode cX6_punch 28 = .ok (.ireturn, 1) := by decide +kernel
theorem dX6_punch_29 : decode cX6_punch 29 = .ok (.sipush 256, 3) := by decide +kernel
theorem dX6_punch_32 : decode cX6_punch 32 = .ok (.iload_n 2, 1) := by decide +kernel
theorem dX6_punch_33 : decode cX6_punch 33 = .ok (.iload_n 3, 1) := by decide +kernel
theorem dX6_punch_34 : decode cX6_punch 34 = .ok (.iadd, 1) := by decide +kernel
theorem dX6_punch_35 : decode cX6_punch 35 = .ok (.invokestatic 76, 3) := by decide +kernel
theorem dX6_punch_38 : decode cX6_punch 38 = .ok (.istore 4, 2) := by decide +kernel
theorem dX6_punch_40 : decode cX6_punch 40 = .ok (.iconst 0, 1) := by decide +kernel
theorem dX6_punch_41 : decode cX6_punch 41 = .ok (.istore 5, 2) := by decide +kernel
theorem dX6_punch_43 : decode cX6_punch 43 = .ok (.iload_n 2, 1) := by decide +kernel
theorem dX6_punch_44 : decode cX6_punch 44 = .ok (.istore 6, 2) := by decide +kernel
theorem dX6_punch_46 : decode cX6_punch 46 = .ok (.iload 6, 2) := by decide +kernel
theorem dX6_punch_48 : decode cX6_punch 48 = .ok (.iload 4, 2) := by decide +kernel
theorem dX6_punch_50 : decode cX6_punch 50 = .ok (.if_icmp .ge 25, 3) := by decide +kernel
theorem dX6_punch_53 : decode cX6_punch 53 = .ok (.aload_n 0, 1) := by decide +kernel
theorem dX6_punch_54 : decode cX6_punch 54 = .ok (.iload_n 1, 1) := by decide +kernel
theorem dX6_punch_55 : decode cX6_punch 55 = .ok (.iload 6, 2) := by decide +kernel
theorem dX6_punch_57 : decode cX6_punch 57 = .ok (.invokestatic 105, 3) := by decide +kernel
theorem dX6_punch_60 : decode cX6_punch 60 = .ok (.invokevirtual 108, 3) := by decide +kernel
theorem dX6_punch_63 : decode cX6_punch 63 = .ok (.ifCond .eq 6, 3) := by decide +kernel
theorem dX6_punch_66 : decode cX6_punch 66 = .ok (.iinc 5 1, 3) := by decide +kernel
theorem dX6_punch_69 : decode cX6_punch 69 = .ok (.iinc 6 1, 3) := by decide +kernel
theorem dX6_punch_72 : decode cX6_punch 72 = .ok (.goto (-26), 3) := by decide +kernel
theorem dX6_punch_75 : decode cX6_punch 75 = .ok (.iload 5, 2) := by decide +kernel
theorem dX6_punch_77 : decode cX6_punch 77 = .ok (.ireturn, 1) := by decide +kernel
theorem dX6_sync_0 : decode cX6_sync 0 = .ok (.iload_n 1, 1) := by decide +kernel
theorem dX6_sync_1 : decode cX6_sync 1 = .ok (.invokestatic 66, 3) := by decide +kernel
theorem dX6_sync_4 : decode cX6_sync 4 = .ok (.ifCond .ne 6, 3) := by decide +kernel
theorem dX6_sync_7 : decode cX6_sync 7 = .ok (.bipush (-2), 2) := by decide +kernel
theorem dX6_sync_9 : decode cX6_sync 9 = .ok (.ireturn, 1) := by decide +kernel
theorem dX6_sync_10 : decode cX6_sync 10 = .ok (.aload_n 0, 1) := by decide +kernel
theorem dX6_sync_11 : decode cX6_sync 11 = .ok (.getfield 35, 3) := by decide +kernel
theorem dX6_sync_14 : decode cX6_sync 14 = .ok (.invokevirtual 70, 3) := by decide +kernel
theorem dX6_sync_17 : decode cX6_sync 17 = .ok (.iconst 0, 1) := by decide +kernel
theorem dX6_sync_18 : decode cX6_sync 18 = .ok (.istore_n 2, 1) := by decide +kernel
theorem dX6_sync_19 : decode cX6_sync 19 = .ok (.iconst 0, 1) := by decide +kernel
theorem dX6_sync_20 : decode cX6_sync 20 = .ok (.istore_n 3, 1) := by decide +kernel
theorem dX6_sync_21 : decode cX6_sync 21 = .ok (.iload_n 3, 1) := by decide +kernel
theorem dX6_sync_22 : decode cX6_sync 22 = .ok (.sipush 256, 3) := by decide +kernel
theorem dX6_sync_25 : decode cX6_sync 25 = .ok (.if_icmp .ge 47, 3) := by decide +kernel
theorem dX6_sync_28 : decode cX6_sync 28 = .ok (.aload_n 0, 1) := by decide +kernel
theorem dX6_sync_29 : decode cX6_sync 29 = .ok (.getfield 49, 3) := by decide +kernel
theorem dX6_sync_32 : decode cX6_sync 32 = .ok (.iload_n 1, 1) := by decide +kernel
theorem dX6_sync_33 : decode cX6_sync 33 = .ok (.iload_n 3, 1) := by decide +kernel
theorem dX6_sync_34 : decode cX6_sync 34 = .ok (.invokestatic 105, 3) := by decide +kernel
theorem dX6_sync_37 : decode cX6_sync 37 = .ok (.invokevirtual 118, 3) := by decide +kernel
theorem dX6_sync_40 : decode cX6_sync 40 = .ok (.istore 4, 2) := by decide +kernel
theorem dX6_sync_42 : decode cX6_sync 42 = .ok (.aload_n 0, 1) := by decide +kernel
theorem dX6_sync_43 : decode cX6_sync 43 = .ok (.getfield 49, 3) := by decide +kernel
theorem dX6_sync_46 : decode cX6_sync 46 = .ok (.iload 4, 2) := by decide +kernel
theorem dX6_sync_48 : decode cX6_sync 48 = .ok (.invokevirtual 121, 3) := by decide +kernel
theorem dX6_sync_51 : decode cX6_sync 51 = .ok (.ifCond .eq 15, 3) := by decide +kernel
theorem dX6_sync_54 : decode cX6_sync 54 = .ok (.aload_n 0, 1) := by decide +kernel
theorem dX6_sync_55 : decode cX6_sync 55 = .ok (.iload 4, 2) := by decide +kernel
theorem dX6_sync_57 : decode cX6_sync 57 = .ok (.invokevirtual 124, 3) := by decide +kernel
theorem dX6_sync_60 : decode cX6_sync 60 = .ok (.ifCond .eq 6, 3) := by decide +kernel
theorem dX6_sync_63 : decode cX6_sync 63 = .ok (.iinc 2 1, 3) := by decide +kernel
theorem dX6_sync_66 : decode cX6_sync 66 = .ok (.iinc 3 1, 3) := by decide +kernel
theorem dX6_sync_69 : decode cX6_sync 69 = .ok (.goto (-48), 3) := by decide +kernel
theorem dX6_sync_72 : decode cX6_sync 72 = .ok (.aload_n 0, 1) := by decide +kernel
theorem dX6_sync_73 : decode cX6_sync 73 = .ok (.getfield 42, 3) := by decide +kernel
theorem dX6_sync_76 : decode cX6_sync 76 = .ok (.getfield 127, 3) := by decide +kernel
theorem dX6_sync_79 : decode cX6_sync 79 = .ok (.iload_n 1, 1) := by decide +kernel
theorem dX6_sync_80 : decode cX6_sync 80 = .ok (.iaload, 1) := by decide +kernel
theorem dX6_sync_81 : decode cX6_sync 81 = .ok (.istore_n 3, 1) := by decide +kernel
theorem dX6_sync_82 : decode cX6_sync 82 = .ok (.aload_n 0, 1) := by decide +kernel
theorem dX6_sync_83 : decode cX6_sync 83 = .ok (.getfield 42, 3) := by decide +kernel
