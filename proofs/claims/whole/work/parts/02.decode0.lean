theorem dX0_init_0 : decode cX0_init 0 = .ok (.aload_n 0, 1) := by decide +kernel
theorem dX0_init_1 : decode cX0_init 1 = .ok (.invokespecial 3, 3) := by decide +kernel
theorem dX0_init_4 : decode cX0_init 4 = .ok (.aload_n 0, 1) := by decide +kernel
theorem dX0_init_5 : decode cX0_init 5 = .ok (.new 9, 3) := by decide +kernel
theorem dX0_init_8 : decode cX0_init 8 = .ok (.dup, 1) := by decide +kernel
theorem dX0_init_9 : decode cX0_init 9 = .ok (.invokespecial 11, 3) := by decide +kernel
theorem dX0_init_12 : decode cX0_init 12 = .ok (.putfield 12, 3) := by decide +kernel
theorem dX0_init_15 : decode cX0_init 15 = .ok (.aload_n 0, 1) := by decide +kernel
theorem dX0_init_16 : decode cX0_init 16 = .ok (.iconst 2, 1) := by decide +kernel
theorem dX0_init_17 : decode cX0_init 17 = .ok (.newarray .int, 2) := by decide +kernel
theorem dX0_init_19 : decode cX0_init 19 = .ok (.putfield 18, 3) := by decide +kernel
theorem dX0_init_22 : decode cX0_init 22 = .ok (.aload_n 0, 1) := by decide +kernel
theorem dX0_init_23 : decode cX0_init 23 = .ok (.iconst 2, 1) := by decide +kernel
theorem dX0_init_24 : decode cX0_init 24 = .ok (.newarray .int, 2) := by decide +kernel
theorem dX0_init_26 : decode cX0_init 26 = .ok (.putfield 22, 3) := by decide +kernel
theorem dX0_init_29 : decode cX0_init 29 = .ok (.aload_n 0, 1) := by decide +kernel
theorem dX0_init_30 : decode cX0_init 30 = .ok (.iconst 0, 1) := by decide +kernel
theorem dX0_init_31 : decode cX0_init 31 = .ok (.putfield 25, 3) := by decide +kernel
theorem dX0_init_34 : decode cX0_init 34 = .ok (.aload_n 0, 1) := by decide +kernel
theorem dX0_init_35 : decode cX0_init 35 = .ok (.iconst 0, 1) := by decide +kernel
theorem dX0_init_36 : decode cX0_init 36 = .ok (.putfield 29, 3) := by decide +kernel
theorem dX0_init_39 : decode cX0_init 39 = .ok (.aload_n 0, 1) := by decide +kernel
theorem dX0_init_40 : decode cX0_init 40 = .ok (.iconst 0, 1) := by decide +kernel
theorem dX0_init_41 : decode cX0_init 41 = .ok (.putfield 32, 3) := by decide +kernel
theorem dX0_init_44 : decode cX0_init 44 = .ok (.aload_n 0, 1) := by decide +kernel
theorem dX0_init_45 : decode cX0_init 45 = .ok (.aload_n 1, 1) := by decide +kernel
theorem dX0_init_46 : decode cX0_init 46 = .ok (.putfield 35, 3) := by decide +kernel
theorem dX0_init_49 : decode cX0_init 49 = .ok (.aload_n 0, 1) := by decide +kernel
theorem dX0_init_50 : decode cX0_init 50 = .ok (.new 39, 3) := by decide +kernel
theorem dX0_init_53 : decode cX0_init 53 = .ok (.dup, 1) := by decide +kernel
theorem dX0_init_54 : decode cX0_init 54 = .ok (.aload_n 1, 1) := by decide +kernel
theorem dX0_init_55 : decode cX0_init 55 = .ok (.invokespecial 41, 3) := by decide +kernel
theorem dX0_init_58 : decode cX0_init 58 = .ok (.putfield 44, 3) := by decide +kernel
theorem dX0_init_61 : decode cX0_init 61 = .ok (.return_, 1) := by decide +kernel
theorem dX0_walk_0 : decode cX0_walk 0 = .ok (.aload_n 0, 1) := by decide +kernel
theorem dX0_walk_1 : decode cX0_walk 1 = .ok (.getfield 44, 3) := by decide +kernel
theorem dX0_walk_4 : decode cX0_walk 4 = .ok (.aload_n 0, 1) := by decide +kernel
theorem dX0_walk_5 : decode cX0_walk 5 = .ok (.getfield 25, 3) := by decide +kernel
theorem dX0_walk_8 : decode cX0_walk 8 = .ok (.invokevirtual 48, 3) := by decide +kernel
theorem dX0_walk_11 : decode cX0_walk 11 = .ok (.aload_n 0, 1) := by decide +kernel
theorem dX0_walk_12 : decode cX0_walk 12 = .ok (.getfield 18, 3) := by decide +kernel
theorem dX0_walk_15 : decode cX0_walk 15 = .ok (.iconst 0, 1) := by decide +kernel
theorem dX0_walk_16 : decode cX0_walk 16 = .ok (.invokestatic 52, 3) := by decide +kernel
theorem dX0_walk_19 : decode cX0_walk 19 = .ok (.aload_n 0, 1) := by decide +kernel
theorem dX0_walk_20 : decode cX0_walk 20 = .ok (.getfield 22, 3) := by decide +kernel
theorem dX0_walk_23 : decode cX0_walk 23 = .ok (.iconst 0, 1) := by decide +kernel
theorem dX0_walk_24 : decode cX0_walk 24 = .ok (.invokestatic 52, 3) := by decide +kernel
theorem dX0_walk_27 : decode cX0_walk 27 = .ok (.aload_n 0, 1) := by decide +kernel
theorem dX0_walk_28 : decode cX0_walk 28 = .ok (.iconst 0, 1) := by decide +kernel
theorem dX0_walk_29 : decode cX0_walk 29 = .ok (.putfield 29, 3) := by decide +kernel
theorem dX0_walk_32 : decode cX0_walk 32 = .ok (.aload_n 0, 1) := by decide +kernel
theorem dX0_walk_33 : decode cX0_walk 33 = .ok (.iconst 0, 1) := by decide +kernel
theorem dX0_walk_34 : decode cX0_walk 34 = .ok (.putfield 32, 3) := by decide +kernel
theorem dX0_walk_37 : decode cX0_walk 37 = .ok (.aload_n 0, 1) := by decide +kernel
theorem dX0_walk_38 : decode cX0_walk 38 = .ok (.getfield 32, 3) := by decide +kernel
theorem dX0_walk_41 : decode cX0_walk 41 = .ok (.iload_n 1, 1) := by decide +kernel
theorem dX0_walk_42 : decode cX0_walk 42 = .ok (.if_icmp .ge 51, 3) := by decide +kernel
theorem dX0_walk_45 : decode cX0_walk 45 = .ok (.aload_n 0, 1) := by decide +kernel
theorem dX0_walk_46 : decode cX0_walk 46 = .ok (.getfield 32, 3) := by decide +kernel
theorem dX0_walk_49 : decode cX0_walk 49 = .ok (.aload_n 0, 1) := by decide +kernel
theorem dX0_walk_50 : decode cX0_walk 50 = .ok (.getfield 12, 3) := by decide +kernel
theorem dX0_walk_53 : decode cX0_walk 53 = .ok (.getfield 58, 3) := by decide +kernel
theorem dX0_walk_56 : decode cX0_walk 56 = .ok (.if_icmp .ge 37, 3) := by decide +kernel
theorem dX0_walk_59 : decode cX0_walk 59 = .ok (.aload_n 0, 1) := by decide +kernel
theorem dX0_walk_60 : decode cX0_walk 60 = .ok (.aload_n 0, 1) := by decide +kernel
theorem dX0_walk_61 : decode cX0_walk 61 = .ok (.getfield 12, 3) := by decide +kernel
theorem dX0_walk_64 : decode cX0_walk 64 = .ok (.aload_n 0, 1) := by decide +kernel
theorem dX0_walk_65 : decode cX0_walk 65 = .ok (.getfield 32, 3) := by decide +kernel
theorem dX0_walk_68 : decode cX0_walk 68 = .ok (.invokevirtual 61, 3) := by decide +kernel
theorem dX0_walk_71 : decode cX0_walk 71 = .ok (.invokestatic 65, 3) := by decide +kernel
theorem dX0_walk_74 : decode cX0_walk 74 = .ok (.invokevirtual 68, 3) := by decide +kernel
theorem dX0_walk_77 : decode cX0_walk 77 = .ok (.ifCond .eq 16, 3) := by decide +kernel
theorem dX0_walk_80 : decode cX0_walk 80 = .ok (.aload_n 0, 1) := by decide +kernel
theorem dX0_walk_81 : decode cX0_walk 81 = .ok (.dup, 1) := by decide +kernel
theorem dX0_walk_82 : decode cX0_walk 82 = .ok (.getfield 32, 3) := by decide +kernel
theorem dX0_walk_85 : decode cX0_walk 85 = .ok (.iconst 1, 1) := by decide +kernel
theorem dX0_walk_86 : decode cX0_walk 86 = .ok (.iadd, 1) := by decide +kernel
theorem dX0_walk_87 : decode cX0_walk 87 = .ok (.putfield 32, 3) := by decide +kernel
theorem dX0_walk_90 : decode cX0_walk 90 = .ok (.goto (-53), 3) := by decide +kernel
theorem dX0_walk_93 : decode cX0_walk 93 = .ok (.return_, 1) := by decide +kernel
theorem dX0_doStep_0 : decode cX0_doStep 0 = .ok (.iload_n 1, 1) := by decide +kernel
theorem dX0_doStep_1 : decode cX0_doStep 1 = .ok (.iconst 3, 1) := by decide +kernel
theorem dX0_doStep_2 : decode cX0_doStep 2 = .ok (.ishr, 1) := by decide +kernel
theorem dX0_doStep_3 : decode cX0_doStep 3 = .ok (.istore_n 2, 1) := by decide +kernel
theorem dX0_doStep_4 : decode cX0_doStep 4 = .ok (.iload_n 1, 1) := by decide +kernel
theorem dX0_doStep_5 : decode cX0_doStep 5 = .ok (.bipush 7, 2) := by decide +kernel
theorem dX0_doStep_7 : decode cX0_doStep 7 = .ok (.iand, 1) := by decide +kernel
theorem dX0_doStep_8 : decode cX0_doStep 8 = .ok (.istore_n 3, 1) := by decide +kernel
theorem dX0_doStep_9 : decode cX0_doStep 9 = .ok (.iload_n 1, 1) := by decide +kernel
theorem dX0_doStep_10 : decode cX0_doStep 10 = .ok (.iconst (-1), 1) := by decide +kernel
theorem dX0_doStep_11 : decode cX0_doStep 11 = .ok (.if_icmp .eq 15, 3) := by decide +kernel
theorem dX0_doStep_14 : decode cX0_doStep 14 = .ok (.aload_n 0, 1) := by decide +kernel
theorem dX0_doStep_15 : decode cX0_doStep 15 = .ok (.getfield 44, 3) := by decide +kernel
theorem dX0_doStep_18 : decode cX0_doStep 18 = .ok (.iload_n 2, 1) := by decide +kernel
theorem dX0_doStep_19 : decode cX0_doStep 19 = .ok (.iload_n 3, 1) := by decide +kernel
theorem dX0_doStep_20 : decode cX0_doStep 20 = .ok (.invokevirtual 72, 3) := by decide +kernel
theorem dX0_doStep_23 : decode cX0_doStep 23 = .ok (.ifCond .ne 5, 3) := by decide +kernel
theorem dX0_doStep_26 : decode cX0_doStep 26 = .ok (.iconst 0, 1) := by decide +kernel
theorem dX0_doStep_27 : decode cX0_doStep 27 = .ok (.ireturn, 1) := by decide +kernel
theorem dX0_doStep_28 : decode cX0_doStep 28 = .ok (.aload_n 0, 1) := by decide +kernel
theorem dX0_doStep_29 : decode cX0_doStep 29 = .ok (.getfield 44, 3) := by decide +kernel
theorem dX0_doStep_32 : decode cX0_doStep 32 = .ok (.iload_n 2, 1) := by decide +kernel
theorem dX0_doStep_33 : decode cX0_doStep 33 = .ok (.iload_n 3, 1) := by decide +kernel
theorem dX0_doStep_34 : decode cX0_doStep 34 = .ok (.invokevirtual 76, 3) := by decide +kernel
theorem dX0_doStep_37 : decode cX0_doStep 37 = .ok (.aload_n 0, 1) := by decide +kernel
theorem dX0_doStep_38 : decode cX0_doStep 38 = .ok (.getfield 44, 3) := by decide +kernel
theorem dX0_doStep_41 : decode cX0_doStep 41 = .ok (.getfield 80, 3) := by decide +kernel
theorem dX0_doStep_44 : decode cX0_doStep 44 = .ok (.aload_n 0, 1) := by decide +kernel
theorem dX0_doStep_45 : decode cX0_doStep 45 = .ok (.getfield 35, 3) := by decide +kernel
theorem dX0_doStep_48 : decode cX0_doStep 48 = .ok (.getfield 83, 3) := by decide +kernel
theorem dX0_doStep_51 : decode cX0_doStep 51 = .ok (.if_icmp .le 32, 3) := by decide +kernel
theorem dX0_doStep_54 : decode cX0_doStep 54 = .ok (.aload_n 0, 1) := by decide +kernel
theorem dX0_doStep_55 : decode cX0_doStep 55 = .ok (.getfield 35, 3) := by decide +kernel
theorem dX0_doStep_58 : decode cX0_doStep 58 = .ok (.iload_n 2, 1) := by decide +kernel
theorem dX0_doStep_59 : decode cX0_doStep 59 = .ok (.invokevirtual 88, 3) := by decide +kernel
theorem dX0_doStep_62 : decode cX0_doStep 62 = .ok (.ifCond .ne 14, 3) := by decide +kernel
theorem dX0_doStep_65 : decode cX0_doStep 65 = .ok (.aload_n 0, 1) := by decide +kernel
theorem dX0_doStep_66 : decode cX0_doStep 66 = .ok (.getfield 44, 3) := by decide +kernel
theorem dX0_doStep_69 : decode cX0_doStep 69 = .ok (.iload_n 2, 1) := by decide +kernel
theorem dX0_doStep_70 : decode cX0_doStep 70 = .ok (.iload_n 3, 1) := by decide +kernel
theorem dX0_doStep_71 : decode cX0_doStep 71 = .ok (.invokevirtual 76, 3) := by decide +kernel
theorem dX0_doStep_74 : decode cX0_doStep 74 = .ok (.iconst 0, 1) := by decide +kernel
theorem dX0_doStep_75 : decode cX0_doStep 75 = .ok (.ireturn, 1) := by decide +kernel
theorem dX0_doStep_76 : decode cX0_doStep 76 = .ok (.aload_n 0, 1) := by decide +kernel
theorem dX0_doStep_77 : decode cX0_doStep 77 = .ok (.iconst 1, 1) := by decide +kernel
theorem dX0_doStep_78 : decode cX0_doStep 78 = .ok (.iload_n 2, 1) := by decide +kernel
theorem dX0_doStep_79 : decode cX0_doStep 79 = .ok (.isub, 1) := by decide +kernel
theorem dX0_doStep_80 : decode cX0_doStep 80 = .ok (.invokevirtual 91, 3) := by decide +kernel
theorem dX0_doStep_83 : decode cX0_doStep 83 = .ok (.aload_n 0, 1) := by decide +kernel
theorem dX0_doStep_84 : decode cX0_doStep 84 = .ok (.iload_n 2, 1) := by decide +kernel
theorem dX0_doStep_85 : decode cX0_doStep 85 = .ok (.invokevirtual 94, 3) := by decide +kernel
theorem dX0_doStep_88 : decode cX0_doStep 88 = .ok (.iconst 1, 1) := by decide +kernel
theorem dX0_doStep_89 : decode cX0_doStep 89 = .ok (.ireturn, 1) := by decide +kernel
theorem dX0_drag_0 : decode cX0_drag 0 = .ok (.aload_n 0, 1) := by decide +kernel
theorem dX0_drag_1 : decode cX0_drag 1 = .ok (.getfield 44, 3) := by decide +kernel
theorem dX0_drag_4 : decode cX0_drag 4 = .ok (.getfield 97, 3) := by decide +kernel
theorem dX0_drag_7 : decode cX0_drag 7 = .ok (.istore_n 2, 1) := by decide +kernel
theorem dX0_drag_8 : decode cX0_drag 8 = .ok (.iconst 0, 1) := by decide +kernel
theorem dX0_drag_9 : decode cX0_drag 9 = .ok (.istore_n 3, 1) := by decide +kernel
theorem dX0_drag_10 : decode cX0_drag 10 = .ok (.iload_n 3, 1) := by decide +kernel
theorem dX0_drag_11 : decode cX0_drag 11 = .ok (.iload_n 2, 1) := by decide +kernel
theorem dX0_drag_12 : decode cX0_drag 12 = .ok (.if_icmp .ge 60, 3) := by decide +kernel
theorem dX0_drag_15 : decode cX0_drag 15 = .ok (.aload_n 0, 1) := by decide +kernel
theorem dX0_drag_16 : decode cX0_drag 16 = .ok (.getfield 44, 3) := by decide +kernel
theorem dX0_drag_19 : decode cX0_drag 19 = .ok (.getfield 80, 3) := by decide +kernel
theorem dX0_drag_22 : decode cX0_drag 22 = .ok (.aload_n 0, 1) := by decide +kernel
theorem dX0_drag_23 : decode cX0_drag 23 = .ok (.getfield 35, 3) := by decide +kernel
theorem dX0_drag_26 : decode cX0_drag 26 = .ok (.getfield 83, 3) := by decide +kernel
theorem dX0_drag_29 : decode cX0_drag 29 = .ok (.if_icmp .le 43, 3) := by decide +kernel
theorem dX0_drag_32 : decode cX0_drag 32 = .ok (.iload_n 1, 1) := by decide +kernel
theorem dX0_drag_33 : decode cX0_drag 33 = .ok (.iconst 2, 1) := by decide +kernel
theorem dX0_drag_34 : decode cX0_drag 34 = .ok (.invokestatic 98, 3) := by decide +kernel
theorem dX0_drag_37 : decode cX0_drag 37 = .ok (.ifCond .eq 35, 3) := by decide +kernel
theorem dX0_drag_40 : decode cX0_drag 40 = .ok (.aload_n 0, 1) := by decide +kernel
theorem dX0_drag_41 : decode cX0_drag 41 = .ok (.getfield 44, 3) := by decide +kernel
theorem dX0_drag_44 : decode cX0_drag 44 = .ok (.iload_n 1, 1) := by decide +kernel
theorem dX0_drag_45 : decode cX0_drag 45 = .ok (.aload_n 0, 1) := by decide +kernel
theorem dX0_drag_46 : decode cX0_drag 46 = .ok (.getfield 44, 3) := by decide +kernel
theorem dX0_drag_49 : decode cX0_drag 49 = .ok (.iload_n 1, 1) := by decide +kernel
theorem dX0_drag_50 : decode cX0_drag 50 = .ok (.invokevirtual 101, 3) := by decide +kernel
theorem dX0_drag_53 : decode cX0_drag 53 = .ok (.invokevirtual 76, 3) := by decide +kernel
theorem dX0_drag_56 : decode cX0_drag 56 = .ok (.aload_n 0, 1) := by decide +kernel
theorem dX0_drag_57 : decode cX0_drag 57 = .ok (.getfield 22, 3) := by decide +kernel
theorem dX0_drag_60 : decode cX0_drag 60 = .ok (.iload_n 1, 1) := by decide +kernel
theorem dX0_drag_61 : decode cX0_drag 61 = .ok (.dup2, 1) := by decide +kernel
theorem dX0_drag_62 : decode cX0_drag 62 = .ok (.iaload, 1) := by decide +kernel
theorem dX0_drag_63 : decode cX0_drag 63 = .ok (.iconst 1, 1) := by decide +kernel
theorem dX0_drag_64 : decode cX0_drag 64 = .ok (.iadd, 1) := by decide +kernel
theorem dX0_drag_65 : decode cX0_drag 65 = .ok (.iastore, 1) := by decide +kernel
theorem dX0_drag_66 : decode cX0_drag 66 = .ok (.iinc 3 1, 3) := by decide +kernel
theorem dX0_drag_69 : decode cX0_drag 69 = .ok (.goto (-59), 3) := by decide +kernel
theorem dX0_drag_72 : decode cX0_drag 72 = .ok (.return_, 1) := by decide +kernel
theorem dX0_eat_0 : decode cX0_eat 0 = .ok (.iload_n 1, 1) := by decide +kernel
theorem dX0_eat_1 : decode cX0_eat 1 = .ok (.iconst 2, 1) := by decide +kernel
theorem dX0_eat_2 : decode cX0_eat 2 = .ok (.invokestatic 98, 3) := by decide +kernel
theorem dX0_eat_5 : decode cX0_eat 5 = .ok (.ifCond .eq 46, 3) := by decide +kernel
theorem dX0_eat_8 : decode cX0_eat 8 = .ok (.aload_n 0, 1) := by decide +kernel
theorem dX0_eat_9 : decode cX0_eat 9 = .ok (.getfield 44, 3) := by decide +kernel
theorem dX0_eat_12 : decode cX0_eat 12 = .ok (.getfield 104, 3) := by decide +kernel
theorem dX0_eat_15 : decode cX0_eat 15 = .ok (.iload_n 1, 1) := by decide +kernel
theorem dX0_eat_16 : decode cX0_eat 16 = .ok (.iaload, 1) := by decide +kernel
theorem dX0_eat_17 : decode cX0_eat 17 = .ok (.istore_n 2, 1) := by decide +kernel
theorem dX0_eat_18 : decode cX0_eat 18 = .ok (.aload_n 0, 1) := by decide +kernel
theorem dX0_eat_19 : decode cX0_eat 19 = .ok (.getfield 18, 3) := by decide +kernel
theorem dX0_eat_22 : decode cX0_eat 22 = .ok (.iload_n 1, 1) := by decide +kernel
theorem dX0_eat_23 : decode cX0_eat 23 = .ok (.dup2, 1) := by decide +kernel
theorem dX0_eat_24 : decode cX0_eat 24 = .ok (.iaload, 1) := by decide +kernel
theorem dX0_eat_25 : decode cX0_eat 25 = .ok (.aload_n 0, 1) := by decide +kernel
theorem dX0_eat_26 : decode cX0_eat 26 = .ok (.getfield 35, 3) := by decide +kernel
theorem dX0_eat_29 : decode cX0_eat 29 = .ok (.iload_n 2, 1) := by decide +kernel
theorem dX0_eat_30 : decode cX0_eat 30 = .ok (.aload_n 0, 1) := by decide +kernel
theorem dX0_eat_31 : decode cX0_eat 31 = .ok (.getfield 29, 3) := by decide +kernel
theorem dX0_eat_34 : decode cX0_eat 34 = .ok (.invokevirtual 107, 3) := by decide +kernel
theorem dX0_eat_37 : decode cX0_eat 37 = .ok (.iadd, 1) := by decide +kernel
theorem dX0_eat_38 : decode cX0_eat 38 = .ok (.iastore, 1) := by decide +kernel
theorem dX0_eat_39 : decode cX0_eat 39 = .ok (.aload_n 0, 1) := by decide +kernel
theorem dX0_eat_40 : decode cX0_eat 40 = .ok (.dup, 1) := by decide +kernel
theorem dX0_eat_41 : decode cX0_eat 41 = .ok (.getfield 29, 3) := by decide +kernel
theorem dX0_eat_44 : decode cX0_eat 44 = .ok (.iconst 1, 1) := by decide +kernel
theorem dX0_eat_45 : decode cX0_eat 45 = .ok (.iload_n 2, 1) := by decide +kernel
theorem dX0_eat_46 : decode cX0_eat 46 = .ok (.ishl, 1) := by decide +kernel
theorem dX0_eat_47 : decode cX0_eat 47 = .ok (.ior, 1) := by decide +kernel
theorem dX0_eat_48 : decode cX0_eat 48 = .ok (.putfield 29, 3) := by decide +kernel
theorem dX0_eat_51 : decode cX0_eat 51 = .ok (.return_, 1) := by decide +kernel
theorem dX0_told_0 : decode cX0_told 0 = .ok (.iload_n 1, 1) := by decide +kernel
theorem dX0_told_1 : decode cX0_told 1 = .ok (.tableswitch 100 0 6 #[43, 53, 63, 71, 79, 86, 93], 43) := by decide +kernel
theorem dX0_told_44 : decode cX0_told 44 = .ok (.aload_n 0, 1) := by decide +kernel
theorem dX0_told_45 : decode cX0_told 45 = .ok (.getfield 44, 3) := by decide +kernel
theorem dX0_told_48 : decode cX0_told 48 = .ok (.getfield 104, 3) := by decide +kernel
theorem dX0_told_51 : decode cX0_told 51 = .ok (.iconst 0, 1) := by decide +kernel
theorem dX0_told_52 : decode cX0_told 52 = .ok (.iaload, 1) := by decide +kernel
theorem dX0_told_53 : decode cX0_told 53 = .ok (.ireturn, 1) := by decide +kernel
theorem dX0_told_54 : decode cX0_told 54 = .ok (.aload_n 0, 1) := by decide +kernel
theorem dX0_told_55 : decode cX0_told 55 = .ok (.getfield 44, 3) := by decide +kernel
theorem dX0_told_58 : decode cX0_told 58 = .ok (.getfield 104, 3) := by decide +kernel
theorem dX0_told_61 : decode cX0_told 61 = .ok (.iconst 1, 1) := by decide +kernel
theorem dX0_told_62 : decode cX0_told 62 = .ok (.iaload, 1) := by decide +kernel
theorem dX0_told_63 : decode cX0_told 63 = .ok (.ireturn, 1) := by decide +kernel
theorem dX0_told_64 : decode cX0_told 64 = .ok (.aload_n 0, 1) := by decide +kernel
theorem dX0_told_65 : decode cX0_told 65 = .ok (.getfield 44, 3) := by decide +kernel
theorem dX0_told_68 : decode cX0_told 68 = .ok (.getfield 97, 3) := by decide +kernel
theorem dX0_told_71 : decode cX0_told 71 = .ok (.ireturn, 1) := by decide +kernel
theorem dX0_told_72 : decode cX0_told 72 = .ok (.aload_n 0, 1) := by decide +kernel
theorem dX0_told_73 : decode cX0_told 73 = .ok (.getfield 44, 3) := by decide +kernel
theorem dX0_told_76 : decode cX0_told 76 = .ok (.getfield 80, 3) := by decide +kernel
theorem dX0_told_79 : decode cX0_told 79 = .ok (.ireturn, 1) := by decide +kernel
theorem dX0_told_80 : decode cX0_told 80 = .ok (.aload_n 0, 1) := by decide +kernel
theorem dX0_told_81 : decode cX0_told 81 = .ok (.getfield 18, 3) := by decide +kernel
theorem dX0_told_84 : decode cX0_told 84 = .ok (.iconst 0, 1) := by decide +kernel
theorem dX0_told_85 : decode cX0_told 85 = .ok (.iaload, 1) := by decide +kernel
theorem dX0_told_86 : decode cX0_told 86 = .ok (.ireturn, 1) := by decide +kernel
theorem dX0_told_87 : decode cX0_told 87 = .ok (.aload_n 0, 1) := by decide +kernel
theorem dX0_told_88 : decode cX0_told 88 = .ok (.getfield 18, 3) := by decide +kernel
theorem dX0_told_91 : decode cX0_told 91 = .ok (.iconst 1, 1) := by decide +kernel
theorem dX0_told_92 : decode cX0_told 92 = .ok (.iaload, 1) := by decide +kernel
theorem dX0_told_93 : decode cX0_told 93 = .ok (.ireturn, 1) := by decide +kernel
theorem dX0_told_94 : decode cX0_told 94 = .ok (.aload_n 0, 1) := by decide +kernel
theorem dX0_told_95 : decode cX0_told 95 = .ok (.getfield 22, 3) := by decide +kernel
theorem dX0_told_98 : decode cX0_told 98 = .ok (.iconst 0, 1) := by decide +kernel
theorem dX0_told_99 : decode cX0_told 99 = .ok (.iaload, 1) := by decide +kernel
theorem dX0_told_100 : decode cX0_told 100 = .ok (.ireturn, 1) := by decide +kernel
theorem dX0_told_101 : decode cX0_told 101 = .ok (.aload_n 0, 1) := by decide +kernel
theorem dX0_told_102 : decode cX0_told 102 = .ok (.getfield 22, 3) := by decide +kernel
theorem dX0_told_105 : decode cX0_told 105 = .ok (.iconst 1, 1) := by decide +kernel
theorem dX0_told_106 : decode cX0_told 106 = .ok (.iaload, 1) := by decide +kernel
theorem dX0_told_107 : decode cX0_told 107 = .ok (.ireturn, 1) := by decide +kernel
theorem dX0_longestUnbound_0 : decode cX0_longestUnbound 0 = .ok (.aload_n 0, 1) := by decide +kernel
theorem dX0_longestUnbound_1 : decode cX0_longestUnbound 1 = .ok (.getfield 44, 3) := by decide +kernel
theorem dX0_longestUnbound_4 : decode cX0_longestUnbound 4 = .ok (.aload_n 0, 1) := by decide +kernel
theorem dX0_longestUnbound_5 : decode cX0_longestUnbound 5 = .ok (.getfield 25, 3) := by decide +kernel
theorem dX0_longestUnbound_8 : decode cX0_longestUnbound 8 = .ok (.invokevirtual 48, 3) := by decide +kernel
theorem dX0_longestUnbound_11 : decode cX0_longestUnbound 11 = .ok (.iconst 0, 1) := by decide +kernel
theorem dX0_longestUnbound_12 : decode cX0_longestUnbound 12 = .ok (.istore_n 1, 1) := by decide +kernel
theorem dX0_longestUnbound_13 : decode cX0_longestUnbound 13 = .ok (.iconst 0, 1) := by decide +kernel
theorem dX0_longestUnbound_14 : decode cX0_longestUnbound 14 = .ok (.istore_n 2, 1) := by decide +kernel
theorem dX0_longestUnbound_15 : decode cX0_longestUnbound 15 = .ok (.iload_n 2, 1) := by decide +kernel
theorem dX0_longestUnbound_16 : decode cX0_longestUnbound 16 = .ok (.aload_n 0, 1) := by decide +kernel
theorem dX0_longestUnbound_17 : decode cX0_longestUnbound 17 = .ok (.getfield 12, 3) := by decide +kernel
theorem dX0_longestUnbound_20 : decode cX0_longestUnbound 20 = .ok (.getfield 58, 3) := by decide +kernel
theorem dX0_longestUnbound_23 : decode cX0_longestUnbound 23 = .ok (.if_icmp .ge 72, 3) := by decide +kernel
theorem dX0_longestUnbound_26 : decode cX0_longestUnbound 26 = .ok (.aload_n 0, 1) := by decide +kernel
theorem dX0_longestUnbound_27 : decode cX0_longestUnbound 27 = .ok (.getfield 12, 3) := by decide +kernel
theorem dX0_longestUnbound_30 : decode cX0_longestUnbound 30 = .ok (.iload_n 2, 1) := by decide +kernel
theorem dX0_longestUnbound_31 : decode cX0_longestUnbound 31 = .ok (.invokevirtual 61, 3) := by decide +kernel
theorem dX0_longestUnbound_34 : decode cX0_longestUnbound 34 = .ok (.invokestatic 65, 3) := by decide +kernel
theorem dX0_longestUnbound_37 : decode cX0_longestUnbound 37 = .ok (.istore_n 3, 1) := by decide +kernel
theorem dX0_longestUnbound_38 : decode cX0_longestUnbound 38 = .ok (.iload_n 3, 1) := by decide +kernel
theorem dX0_longestUnbound_39 : decode cX0_longestUnbound 39 = .ok (.iconst (-1), 1) := by decide +kernel
theorem dX0_longestUnbound_40 : decode cX0_longestUnbound 40 = .ok (.if_icmp .eq 55, 3) := by decide +kernel
theorem dX0_longestUnbound_43 : decode cX0_longestUnbound 43 = .ok (.aload_n 0, 1) := by decide +kernel
theorem dX0_longestUnbound_44 : decode cX0_longestUnbound 44 = .ok (.getfield 44, 3) := by decide +kernel
theorem dX0_longestUnbound_47 : decode cX0_longestUnbound 47 = .ok (.iload_n 3, 1) := by decide +kernel
theorem dX0_longestUnbound_48 : decode cX0_longestUnbound 48 = .ok (.iconst 3, 1) := by decide +kernel
theorem dX0_longestUnbound_49 : decode cX0_longestUnbound 49 = .ok (.ishr, 1) := by decide +kernel
theorem dX0_longestUnbound_50 : decode cX0_longestUnbound 50 = .ok (.iload_n 3, 1) := by decide +kernel
theorem dX0_longestUnbound_51 : decode cX0_longestUnbound 51 = .ok (.bipush 7, 2) := by decide +kernel
theorem dX0_longestUnbound_53 : decode cX0_longestUnbound 53 = .ok (.iand, 1) := by decide +kernel
theorem dX0_longestUnbound_54 : decode cX0_longestUnbound 54 = .ok (.invokevirtual 72, 3) := by decide +kernel
theorem dX0_longestUnbound_57 : decode cX0_longestUnbound 57 = .ok (.ifCond .ne 6, 3) := by decide +kernel
theorem dX0_longestUnbound_60 : decode cX0_longestUnbound 60 = .ok (.goto 35, 3) := by decide +kernel
theorem dX0_longestUnbound_63 : decode cX0_longestUnbound 63 = .ok (.aload_n 0, 1) := by decide +kernel
theorem dX0_longestUnbound_64 : decode cX0_longestUnbound 64 = .ok (.getfield 44, 3) := by decide +kernel
theorem dX0_longestUnbound_67 : decode cX0_longestUnbound 67 = .ok (.iload_n 3, 1) := by decide +kernel
theorem dX0_longestUnbound_68 : decode cX0_longestUnbound 68 = .ok (.iconst 3, 1) := by decide +kernel
theorem dX0_longestUnbound_69 : decode cX0_longestUnbound 69 = .ok (.ishr, 1) := by decide +kernel
theorem dX0_longestUnbound_70 : decode cX0_longestUnbound 70 = .ok (.iload_n 3, 1) := by decide +kernel
theorem dX0_longestUnbound_71 : decode cX0_longestUnbound 71 = .ok (.bipush 7, 2) := by decide +kernel
theorem dX0_longestUnbound_73 : decode cX0_longestUnbound 73 = .ok (.iand, 1) := by decide +kernel
theorem dX0_longestUnbound_74 : decode cX0_longestUnbound 74 = .ok (.invokevirtual 76, 3) := by decide +kernel
theorem dX0_longestUnbound_77 : decode cX0_longestUnbound 77 = .ok (.iload_n 1, 1) := by decide +kernel
theorem dX0_longestUnbound_78 : decode cX0_longestUnbound 78 = .ok (.aload_n 0, 1) := by decide +kernel
theorem dX0_longestUnbound_79 : decode cX0_longestUnbound 79 = .ok (.getfield 44, 3) := by decide +kernel
theorem dX0_longestUnbound_82 : decode cX0_longestUnbound 82 = .ok (.getfield 80, 3) := by decide +kernel
theorem dX0_longestUnbound_85 : decode cX0_longestUnbound 85 = .ok (.invokestatic 111, 3) := by decide +kernel
theorem dX0_longestUnbound_88 : decode cX0_longestUnbound 88 = .ok (.istore_n 1, 1) := by decide +kernel
theorem dX0_longestUnbound_89 : decode cX0_longestUnbound 89 = .ok (.iinc 2 1, 3) := by decide +kernel
theorem dX0_longestUnbound_92 : decode cX0_longestUnbound 92 = .ok (.goto (-77), 3) := by decide +kernel
theorem dX0_longestUnbound_95 : decode cX0_longestUnbound 95 = .ok (.iload_n 1, 1) := by decide +kernel
theorem dX0_longestUnbound_96 : decode cX0_longestUnbound 96 = .ok (.ireturn, 1) := by decide +kernel
theorem dX1_init_0 : decode cX1_init 0 = .ok (.aload_n 0, 1) := by decide +kernel
theorem dX1_init_1 : decode cX1_init 1 = .ok (.invokespecial 3, 3) := by decide +kernel
theorem dX1_init_4 : decode cX1_init 4 = .ok (.aload_n 0, 1) := by decide +kernel
theorem dX1_init_5 : decode cX1_init 5 = .ok (.iconst 2, 1) := by decide +kernel
theorem dX1_init_6 : decode cX1_init 6 = .ok (.newarray .int, 2) := by decide +kernel
theorem dX1_init_8 : decode cX1_init 8 = .ok (.putfield 9, 3) := by decide +kernel
theorem dX1_init_11 : decode cX1_init 11 = .ok (.aload_n 0, 1) := by decide +kernel
theorem dX1_init_12 : decode cX1_init 12 = .ok (.bipush 64, 2) := by decide +kernel
theorem dX1_init_14 : decode cX1_init 14 = .ok (.newarray .int, 2) := by decide +kernel
theorem dX1_init_16 : decode cX1_init 16 = .ok (.putfield 15, 3) := by decide +kernel
theorem dX1_init_19 : decode cX1_init 19 = .ok (.aload_n 0, 1) := by decide +kernel
theorem dX1_init_20 : decode cX1_init 20 = .ok (.iconst 0, 1) := by decide +kernel
theorem dX1_init_21 : decode cX1_init 21 = .ok (.putfield 18, 3) := by decide +kernel
theorem dX1_init_24 : decode cX1_init 24 = .ok (.aload_n 0, 1) := by decide +kernel
theorem dX1_init_25 : decode cX1_init 25 = .ok (.iconst 0, 1) := by decide +kernel
theorem dX1_init_26 : decode cX1_init 26 = .ok (.putfield 22, 3) := by decide +kernel
theorem dX1_init_29 : decode cX1_init 29 = .ok (.aload_n 0, 1) := by decide +kernel
theorem dX1_init_30 : decode cX1_init 30 = .ok (.iconst 0, 1) := by decide +kernel
theorem dX1_init_31 : decode cX1_init 31 = .ok (.putfield 25, 3) := by decide +kernel
theorem dX1_init_34 : decode cX1_init 34 = .ok (.aload_n 0, 1) := by decide +kernel
theorem dX1_init_35 : decode cX1_init 35 = .ok (.aload_n 1, 1) := by decide +kernel
theorem dX1_init_36 : decode cX1_init 36 = .ok (.putfield 28, 3) := by decide +kernel
theorem dX1_init_39 : decode cX1_init 39 = .ok (.return_, 1) := by decide +kernel
theorem dX1_standBoth_0 : decode cX1_standBoth 0 = .ok (.aload_n 0, 1) := by decide +kernel
theorem dX1_standBoth_1 : decode cX1_standBoth 1 = .ok (.getfield 9, 3) := by decide +kernel
theorem dX1_standBoth_4 : decode cX1_standBoth 4 = .ok (.iconst 0, 1) := by decide +kernel
theorem dX1_standBoth_5 : decode cX1_standBoth 5 = .ok (.iload_n 1, 1) := by decide +kernel
theorem dX1_standBoth_6 : decode cX1_standBoth 6 = .ok (.iastore, 1) := by decide +kernel
theorem dX1_standBoth_7 : decode cX1_standBoth 7 = .ok (.aload_n 0, 1) := by decide +kernel
theorem dX1_standBoth_8 : decode cX1_standBoth 8 = .ok (.getfield 9, 3) := by decide +kernel
theorem dX1_standBoth_11 : decode cX1_standBoth 11 = .ok (.iconst 1, 1) := by decide +kernel
theorem dX1_standBoth_12 : decode cX1_standBoth 12 = .ok (.iload_n 1, 1) := by decide +kernel
theorem dX1_standBoth_13 : decode cX1_standBoth 13 = .ok (.iastore, 1) := by decide +kernel
theorem dX1_standBoth_14 : decode cX1_standBoth 14 = .ok (.aload_n 0, 1) := by decide +kernel
theorem dX1_standBoth_15 : decode cX1_standBoth 15 = .ok (.iconst 0, 1) := by decide +kernel
theorem dX1_standBoth_16 : decode cX1_standBoth 16 = .ok (.putfield 18, 3) := by decide +kernel
theorem dX1_standBoth_19 : decode cX1_standBoth 19 = .ok (.aload_n 0, 1) := by decide +kernel
theorem dX1_standBoth_20 : decode cX1_standBoth 20 = .ok (.iconst 0, 1) := by decide +kernel
theorem dX1_standBoth_21 : decode cX1_standBoth 21 = .ok (.putfield 22, 3) := by decide +kernel
theorem dX1_standBoth_24 : decode cX1_standBoth 24 = .ok (.aload_n 0, 1) := by decide +kernel
theorem dX1_standBoth_25 : decode cX1_standBoth 25 = .ok (.iconst 0, 1) := by decide +kernel
theorem dX1_standBoth_26 : decode cX1_standBoth 26 = .ok (.putfield 25, 3) := by decide +kernel
theorem dX1_standBoth_29 : decode cX1_standBoth 29 = .ok (.return_, 1) := by decide +kernel
theorem dX1_become_0 : decode cX1_become 0 = .ok (.aload_n 0, 1) := by decide +kernel
theorem dX1_become_1 : decode cX1_become 1 = .ok (.aload_n 1, 1) := by decide +kernel
theorem dX1_become_2 : decode cX1_become 2 = .ok (.getfield 9, 3) := by decide +kernel
theorem dX1_become_5 : decode cX1_become 5 = .ok (.iconst 0, 1) := by decide +kernel
theorem dX1_become_6 : decode cX1_become 6 = .ok (.iaload, 1) := by decide +kernel
theorem dX1_become_7 : decode cX1_become 7 = .ok (.invokevirtual 32, 3) := by decide +kernel
theorem dX1_become_10 : decode cX1_become 10 = .ok (.iconst 0, 1) := by decide +kernel
theorem dX1_become_11 : decode cX1_become 11 = .ok (.istore_n 2, 1) := by decide +kernel
theorem dX1_become_12 : decode cX1_become 12 = .ok (.iload_n 2, 1) := by decide +kernel
theorem dX1_become_13 : decode cX1_become 13 = .ok (.aload_n 1, 1) := by decide +kernel
theorem dX1_become_14 : decode cX1_become 14 = .ok (.getfield 22, 3) := by decide +kernel
theorem dX1_become_17 : decode cX1_become 17 = .ok (.if_icmp .ge 19, 3) := by decide +kernel
theorem dX1_become_20 : decode cX1_become 20 = .ok (.aload_n 0, 1) := by decide +kernel
theorem dX1_become_21 : decode cX1_become 21 = .ok (.iconst 1, 1) := by decide +kernel
theorem dX1_become_22 : decode cX1_become 22 = .ok (.aload_n 1, 1) := by decide +kernel
theorem dX1_become_23 : decode cX1_become 23 = .ok (.iload_n 2, 1) := by decide +kernel
theorem dX1_become_24 : decode cX1_become 24 = .ok (.invokevirtual 36, 3) := by decide +kernel
theorem dX1_become_27 : decode cX1_become 27 = .ok (.invokevirtual 40, 3) := by decide +kernel
theorem dX1_become_30 : decode cX1_become 30 = .ok (.iinc 2 1, 3) := by decide +kernel
theorem dX1_become_33 : decode cX1_become 33 = .ok (.goto (-21), 3) := by decide +kernel
theorem dX1_become_36 : decode cX1_become 36 = .ok (.return_, 1) := by decide +kernel
theorem dX1_relay_0 : decode cX1_relay 0 = .ok (.aload_n 0, 1) := by decide +kernel
theorem dX1_relay_1 : decode cX1_relay 1 = .ok (.getfield 28, 3) := by decide +kernel
theorem dX1_relay_4 : decode cX1_relay 4 = .ok (.iload_n 2, 1) := by decide +kernel
theorem dX1_relay_5 : decode cX1_relay 5 = .ok (.iload_n 3, 1) := by decide +kernel
theorem dX1_relay_6 : decode cX1_relay 6 = .ok (.invokevirtual 44, 3) := by decide +kernel
theorem dX1_relay_9 : decode cX1_relay 9 = .ok (.istore 4, 2) := by decide +kernel
theorem dX1_relay_11 : decode cX1_relay 11 = .ok (.aload_n 0, 1) := by decide +kernel
theorem dX1_relay_12 : decode cX1_relay 12 = .ok (.aload_n 1, 1) := by decide +kernel
theorem dX1_relay_13 : decode cX1_relay 13 = .ok (.getfield 9, 3) := by decide +kernel
theorem dX1_relay_16 : decode cX1_relay 16 = .ok (.iconst 0, 1) := by decide +kernel
theorem dX1_relay_17 : decode cX1_relay 17 = .ok (.iaload, 1) := by decide +kernel
theorem dX1_relay_18 : decode cX1_relay 18 = .ok (.invokevirtual 32, 3) := by decide +kernel
theorem dX1_relay_21 : decode cX1_relay 21 = .ok (.iconst 0, 1) := by decide +kernel
theorem dX1_relay_22 : decode cX1_relay 22 = .ok (.istore 5, 2) := by decide +kernel
theorem dX1_relay_24 : decode cX1_relay 24 = .ok (.iload 5, 2) := by decide +kernel
theorem dX1_relay_26 : decode cX1_relay 26 = .ok (.aload_n 1, 1) := by decide +kernel
theorem dX1_relay_27 : decode cX1_relay 27 = .ok (.getfield 22, 3) := by decide +kernel
theorem dX1_relay_30 : decode cX1_relay 30 = .ok (.if_icmp .ge 41, 3) := by decide +kernel
theorem dX1_relay_33 : decode cX1_relay 33 = .ok (.aload_n 1, 1) := by decide +kernel
theorem dX1_relay_34 : decode cX1_relay 34 = .ok (.iload 5, 2) := by decide +kernel
theorem dX1_relay_36 : decode cX1_relay 36 = .ok (.invokevirtual 36, 3) := by decide +kernel
theorem dX1_relay_39 : decode cX1_relay 39 = .ok (.istore 6, 2) := by decide +kernel
theorem dX1_relay_41 : decode cX1_relay 41 = .ok (.aload_n 0, 1) := by decide +kernel
theorem dX1_relay_42 : decode cX1_relay 42 = .ok (.iconst 1, 1) := by decide +kernel
theorem dX1_relay_43 : decode cX1_relay 43 = .ok (.iload 6, 2) := by decide +kernel
theorem dX1_relay_45 : decode cX1_relay 45 = .ok (.iload_n 2, 1) := by decide +kernel
theorem dX1_relay_46 : decode cX1_relay 46 = .ok (.if_icmp .eq 9, 3) := by decide +kernel
theorem dX1_relay_49 : decode cX1_relay 49 = .ok (.iload 6, 2) := by decide +kernel
theorem dX1_relay_51 : decode cX1_relay 51 = .ok (.iload_n 3, 1) := by decide +kernel
theorem dX1_relay_52 : decode cX1_relay 52 = .ok (.if_icmp .ne 8, 3) := by decide +kernel
theorem dX1_relay_55 : decode cX1_relay 55 = .ok (.iload 4, 2) := by decide +kernel
theorem dX1_relay_57 : decode cX1_relay 57 = .ok (.goto 5, 3) := by decide +kernel
theorem dX1_relay_60 : decode cX1_relay 60 = .ok (.iload 6, 2) := by decide +kernel
theorem dX1_relay_62 : decode cX1_relay 62 = .ok (.invokevirtual 40, 3) := by decide +kernel
theorem dX1_relay_65 : decode cX1_relay 65 = .ok (.iinc 5 1, 3) := by decide +kernel
theorem dX1_relay_68 : decode cX1_relay 68 = .ok (.goto (-44), 3) := by decide +kernel
theorem dX1_relay_71 : decode cX1_relay 71 = .ok (.return_, 1) := by decide +kernel
theorem dX1_pathAt_0 : decode cX1_pathAt 0 = .ok (.iload_n 1, 1) := by decide +kernel
theorem dX1_pathAt_1 : decode cX1_pathAt 1 = .ok (.ifCond .lt 28, 3) := by decide +kernel
theorem dX1_pathAt_4 : decode cX1_pathAt 4 = .ok (.iload_n 1, 1) := by decide +kernel
theorem dX1_pathAt_5 : decode cX1_pathAt 5 = .ok (.aload_n 0, 1) := by decide +kernel
theorem dX1_pathAt_6 : decode cX1_pathAt 6 = .ok (.getfield 22, 3) := by decide +kernel
theorem dX1_pathAt_9 : decode cX1_pathAt 9 = .ok (.if_icmp .ge 20, 3) := by decide +kernel
theorem dX1_pathAt_12 : decode cX1_pathAt 12 = .ok (.aload_n 0, 1) := by decide +kernel
theorem dX1_pathAt_13 : decode cX1_pathAt 13 = .ok (.getfield 15, 3) := by decide +kernel
theorem dX1_pathAt_16 : decode cX1_pathAt 16 = .ok (.aload_n 0, 1) := by decide +kernel
theorem dX1_pathAt_17 : decode cX1_pathAt 17 = .ok (.getfield 18, 3) := by decide +kernel
theorem dX1_pathAt_20 : decode cX1_pathAt 20 = .ok (.iload_n 1, 1) := by decide +kernel
theorem dX1_pathAt_21 : decode cX1_pathAt 21 = .ok (.iadd, 1) := by decide +kernel
theorem dX1_pathAt_22 : decode cX1_pathAt 22 = .ok (.bipush 63, 2) := by decide +kernel
theorem dX1_pathAt_24 : decode cX1_pathAt 24 = .ok (.iand, 1) := by decide +kernel
theorem dX1_pathAt_25 : decode cX1_pathAt 25 = .ok (.iaload, 1) := by decide +kernel
theorem dX1_pathAt_26 : decode cX1_pathAt 26 = .ok (.goto 4, 3) := by decide +kernel
theorem dX1_pathAt_29 : decode cX1_pathAt 29 = .ok (.iconst (-1), 1) := by decide +kernel
theorem dX1_pathAt_30 : decode cX1_pathAt 30 = .ok (.ireturn, 1) := by decide +kernel
theorem dX1_nextTo_0 : decode cX1_nextTo 0 = .ok (.aload_n 0, 1) := by decide +kernel
theorem dX1_nextTo_1 : decode cX1_nextTo 1 = .ok (.getfield 22, 3) := by decide +kernel
theorem dX1_nextTo_4 : decode cX1_nextTo 4 = .ok (.ifCond .ne 5, 3) := by decide +kernel
theorem dX1_nextTo_7 : decode cX1_nextTo 7 = .ok (.iconst (-1), 1) := by decide +kernel
theorem dX1_nextTo_8 : decode cX1_nextTo 8 = .ok (.ireturn, 1) := by decide +kernel
theorem dX1_nextTo_9 : decode cX1_nextTo 9 = .ok (.aload_n 0, 1) := by decide +kernel
theorem dX1_nextTo_10 : decode cX1_nextTo 10 = .ok (.getfield 15, 3) := by decide +kernel
theorem dX1_nextTo_13 : decode cX1_nextTo 13 = .ok (.iload_n 1, 1) := by decide +kernel
theorem dX1_nextTo_14 : decode cX1_nextTo 14 = .ok (.ifCond .ne 10, 3) := by decide +kernel
theorem dX1_nextTo_17 : decode cX1_nextTo 17 = .ok (.aload_n 0, 1) := by decide +kernel
theorem dX1_nextTo_18 : decode cX1_nextTo 18 = .ok (.getfield 18, 3) := by decide +kernel
theorem dX1_nextTo_21 : decode cX1_nextTo 21 = .ok (.goto 14, 3) := by decide +kernel
theorem dX1_nextTo_24 : decode cX1_nextTo 24 = .ok (.aload_n 0, 1) := by decide +kernel
theorem dX1_nextTo_25 : decode cX1_nextTo 25 = .ok (.getfield 18, 3) := by decide +kernel
theorem dX1_nextTo_28 : decode cX1_nextTo 28 = .ok (.aload_n 0, 1) := by decide +kernel
theorem dX1_nextTo_29 : decode cX1_nextTo 29 = .ok (.getfield 22, 3) := by decide +kernel
theorem dX1_nextTo_32 : decode cX1_nextTo 32 = .ok (.iadd, 1) := by decide +kernel
theorem dX1_nextTo_33 : decode cX1_nextTo 33 = .ok (.iconst 1, 1) := by decide +kernel
theorem dX1_nextTo_34 : decode cX1_nextTo 34 = .ok (.isub, 1) := by decide +kernel
theorem dX1_nextTo_35 : decode cX1_nextTo 35 = .ok (.bipush 63, 2) := by decide +kernel
theorem dX1_nextTo_37 : decode cX1_nextTo 37 = .ok (.iand, 1) := by decide +kernel
theorem dX1_nextTo_38 : decode cX1_nextTo 38 = .ok (.iaload, 1) := by decide +kernel
theorem dX1_nextTo_39 : decode cX1_nextTo 39 = .ok (.ireturn, 1) := by decide +kernel
theorem dX1_canGo_0 : decode cX1_canGo 0 = .ok (.iload_n 1, 1) := by decide +kernel
theorem dX1_canGo_1 : decode cX1_canGo 1 = .ok (.iconst 2, 1) := by decide +kernel
theorem dX1_canGo_2 : decode cX1_canGo 2 = .ok (.invokestatic 50, 3) := by decide +kernel
theorem dX1_canGo_5 : decode cX1_canGo 5 = .ok (.ifCond .eq 24, 3) := by decide +kernel
theorem dX1_canGo_8 : decode cX1_canGo 8 = .ok (.aload_n 0, 1) := by decide +kernel
theorem dX1_canGo_9 : decode cX1_canGo 9 = .ok (.getfield 28, 3) := by decide +kernel
theorem dX1_canGo_12 : decode cX1_canGo 12 = .ok (.iload_n 2, 1) := by decide +kernel
theorem dX1_canGo_13 : decode cX1_canGo 13 = .ok (.aload_n 0, 1) := by decide +kernel
theorem dX1_canGo_14 : decode cX1_canGo 14 = .ok (.getfield 9, 3) := by decide +kernel
theorem dX1_canGo_17 : decode cX1_canGo 17 = .ok (.iload_n 1, 1) := by decide +kernel
theorem dX1_canGo_18 : decode cX1_canGo 18 = .ok (.iaload, 1) := by decide +kernel
theorem dX1_canGo_19 : decode cX1_canGo 19 = .ok (.invokevirtual 54, 3) := by decide +kernel
theorem dX1_canGo_22 : decode cX1_canGo 22 = .ok (.ifCond .eq 7, 3) := by decide +kernel
theorem dX1_canGo_25 : decode cX1_canGo 25 = .ok (.iconst 1, 1) := by decide +kernel
theorem dX1_canGo_26 : decode cX1_canGo 26 = .ok (.goto 4, 3) := by decide +kernel
theorem dX1_canGo_29 : decode cX1_canGo 29 = .ok (.iconst 0, 1) := by decide +kernel
theorem dX1_canGo_30 : decode cX1_canGo 30 = .ok (.ireturn, 1) := by decide +kernel
theorem dX1_go_0 : decode cX1_go 0 = .ok (.iload_n 1, 1) := by decide +kernel
theorem dX1_go_1 : decode cX1_go 1 = .ok (.iconst 2, 1) := by decide +kernel
theorem dX1_go_2 : decode cX1_go 2 = .ok (.invokestatic 50, 3) := by decide +kernel
theorem dX1_go_5 : decode cX1_go 5 = .ok (.ifCond .ne 4, 3) := by decide +kernel
theorem dX1_go_8 : decode cX1_go 8 = .ok (.return_, 1) := by decide +kernel
theorem dX1_go_9 : decode cX1_go 9 = .ok (.aload_n 0, 1) := by decide +kernel
theorem dX1_go_10 : decode cX1_go 10 = .ok (.iload_n 1, 1) := by decide +kernel
theorem dX1_go_11 : decode cX1_go 11 = .ok (.invokevirtual 57, 3) := by decide +kernel
theorem dX1_go_14 : decode cX1_go 14 = .ok (.iload_n 2, 1) := by decide +kernel
theorem dX1_go_15 : decode cX1_go 15 = .ok (.if_icmp .ne 28, 3) := by decide +kernel
theorem dX1_go_18 : decode cX1_go 18 = .ok (.aload_n 0, 1) := by decide +kernel
theorem dX1_go_19 : decode cX1_go 19 = .ok (.iload_n 1, 1) := by decide +kernel
theorem dX1_go_20 : decode cX1_go 20 = .ok (.invokevirtual 60, 3) := by decide +kernel
theorem dX1_go_23 : decode cX1_go 23 = .ok (.aload_n 0, 1) := by decide +kernel
theorem dX1_go_24 : decode cX1_go 24 = .ok (.dup, 1) := by decide +kernel
theorem dX1_go_25 : decode cX1_go 25 = .ok (.getfield 25, 3) := by decide +kernel
theorem dX1_go_28 : decode cX1_go 28 = .ok (.aload_n 0, 1) := by decide +kernel
theorem dX1_go_29 : decode cX1_go 29 = .ok (.getfield 28, 3) := by decide +kernel
theorem dX1_go_32 : decode cX1_go 32 = .ok (.iload_n 2, 1) := by decide +kernel
theorem dX1_go_33 : decode cX1_go 33 = .ok (.invokevirtual 63, 3) := by decide +kernel
theorem dX1_go_36 : decode cX1_go 36 = .ok (.isub, 1) := by decide +kernel
theorem dX1_go_37 : decode cX1_go 37 = .ok (.putfield 25, 3) := by decide +kernel
theorem dX1_go_40 : decode cX1_go 40 = .ok (.goto 26, 3) := by decide +kernel
theorem dX1_go_43 : decode cX1_go 43 = .ok (.aload_n 0, 1) := by decide +kernel
theorem dX1_go_44 : decode cX1_go 44 = .ok (.iload_n 1, 1) := by decide +kernel
theorem dX1_go_45 : decode cX1_go 45 = .ok (.iload_n 2, 1) := by decide +kernel
theorem dX1_go_46 : decode cX1_go 46 = .ok (.invokevirtual 66, 3) := by decide +kernel
theorem dX1_go_49 : decode cX1_go 49 = .ok (.aload_n 0, 1) := by decide +kernel
theorem dX1_go_50 : decode cX1_go 50 = .ok (.dup, 1) := by decide +kernel
theorem dX1_go_51 : decode cX1_go 51 = .ok (.getfield 25, 3) := by decide +kernel
theorem dX1_go_54 : decode cX1_go 54 = .ok (.aload_n 0, 1) := by decide +kernel
theorem dX1_go_55 : decode cX1_go 55 = .ok (.getfield 28, 3) := by decide +kernel
theorem dX1_go_58 : decode cX1_go 58 = .ok (.iload_n 2, 1) := by decide +kernel
theorem dX1_go_59 : decode cX1_go 59 = .ok (.invokevirtual 63, 3) := by decide +kernel
theorem dX1_go_62 : decode cX1_go 62 = .ok (.iadd, 1) := by decide +kernel
theorem dX1_go_63 : decode cX1_go 63 = .ok (.putfield 25, 3) := by decide +kernel
theorem dX1_go_66 : decode cX1_go 66 = .ok (.aload_n 0, 1) := by decide +kernel
theorem dX1_go_67 : decode cX1_go 67 = .ok (.getfield 9, 3) := by decide +kernel
theorem dX1_go_70 : decode cX1_go 70 = .ok (.iload_n 1, 1) := by decide +kernel
theorem dX1_go_71 : decode cX1_go 71 = .ok (.aload_n 0, 1) := by decide +kernel
theorem dX1_go_72 : decode cX1_go 72 = .ok (.getfield 28, 3) := by decide +kernel
theorem dX1_go_75 : decode cX1_go 75 = .ok (.iload_n 2, 1) := by decide +kernel
theorem dX1_go_76 : decode cX1_go 76 = .ok (.aload_n 0, 1) := by decide +kernel
theorem dX1_go_77 : decode cX1_go 77 = .ok (.getfield 9, 3) := by decide +kernel
theorem dX1_go_80 : decode cX1_go 80 = .ok (.iload_n 1, 1) := by decide +kernel
theorem dX1_go_81 : decode cX1_go 81 = .ok (.iaload, 1) := by decide +kernel
theorem dX1_go_82 : decode cX1_go 82 = .ok (.invokevirtual 69, 3) := by decide +kernel
theorem dX1_go_85 : decode cX1_go 85 = .ok (.iastore, 1) := by decide +kernel
theorem dX1_go_86 : decode cX1_go 86 = .ok (.return_, 1) := by decide +kernel
theorem dX1_takeUp_0 : decode cX1_takeUp 0 = .ok (.aload_n 0, 1) := by decide +kernel
theorem dX1_takeUp_1 : decode cX1_takeUp 1 = .ok (.dup, 1) := by decide +kernel
theorem dX1_takeUp_2 : decode cX1_takeUp 2 = .ok (.getfield 22, 3) := by decide +kernel
theorem dX1_takeUp_5 : decode cX1_takeUp 5 = .ok (.iconst 1, 1) := by decide +kernel
theorem dX1_takeUp_6 : decode cX1_takeUp 6 = .ok (.isub, 1) := by decide +kernel
theorem dX1_takeUp_7 : decode cX1_takeUp 7 = .ok (.putfield 22, 3) := by decide +kernel
theorem dX1_takeUp_10 : decode cX1_takeUp 10 = .ok (.iload_n 1, 1) := by decide +kernel
theorem dX1_takeUp_11 : decode cX1_takeUp 11 = .ok (.ifCond .ne 16, 3) := by decide +kernel
theorem dX1_takeUp_14 : decode cX1_takeUp 14 = .ok (.aload_n 0, 1) := by decide +kernel
theorem dX1_takeUp_15 : decode cX1_takeUp 15 = .ok (.aload_n 0, 1) := by decide +kernel
theorem dX1_takeUp_16 : decode cX1_takeUp 16 = .ok (.getfield 18, 3) := by decide +kernel
theorem dX1_takeUp_19 : decode cX1_takeUp 19 = .ok (.iconst 1, 1) := by decide +kernel
theorem dX1_takeUp_20 : decode cX1_takeUp 20 = .ok (.iadd, 1) := by decide +kernel
theorem dX1_takeUp_21 : decode cX1_takeUp 21 = .ok (.bipush 63, 2) := by decide +kernel
theorem dX1_takeUp_23 : decode cX1_takeUp 23 = .ok (.iand, 1) := by decide +kernel
theorem dX1_takeUp_24 : decode cX1_takeUp 24 = .ok (.putfield 18, 3) := by decide +kernel
theorem dX1_takeUp_27 : decode cX1_takeUp 27 = .ok (.return_, 1) := by decide +kernel
theorem dX1_layDown_0 : decode cX1_layDown 0 = .ok (.aload_n 0, 1) := by decide +kernel
theorem dX1_layDown_1 : decode cX1_layDown 1 = .ok (.dup, 1) := by decide +kernel
theorem dX1_layDown_2 : decode cX1_layDown 2 = .ok (.getfield 22, 3) := by decide +kernel
theorem dX1_layDown_5 : decode cX1_layDown 5 = .ok (.iconst 1, 1) := by decide +kernel
theorem dX1_layDown_6 : decode cX1_layDown 6 = .ok (.iadd, 1) := by decide +kernel
theorem dX1_layDown_7 : decode cX1_layDown 7 = .ok (.putfield 22, 3) := by decide +kernel
theorem dX1_layDown_10 : decode cX1_layDown 10 = .ok (.iload_n 1, 1) := by decide +kernel
theorem dX1_layDown_11 : decode cX1_layDown 11 = .ok (.ifCond .ne 29, 3) := by decide +kernel
theorem dX1_layDown_14 : decode cX1_layDown 14 = .ok (.aload_n 0, 1) := by decide +kernel
theorem dX1_layDown_15 : decode cX1_layDown 15 = .ok (.aload_n 0, 1) := by decide +kernel
theorem dX1_layDown_16 : decode cX1_layDown 16 = .ok (.getfield 18, 3) := by decide +kernel
theorem dX1_layDown_19 : decode cX1_layDown 19 = .ok (.iconst 1, 1) := by decide +kernel
theorem dX1_layDown_20 : decode cX1_layDown 20 = .ok (.isub, 1) := by decide +kernel
theorem dX1_layDown_21 : decode cX1_layDown 21 = .ok (.bipush 63, 2) := by decide +kernel
theorem dX1_layDown_23 : decode cX1_layDown 23 = .ok (.iand, 1) := by decide +kernel
theorem dX1_layDown_24 : decode cX1_layDown 24 = .ok (.putfield 18, 3) := by decide +kernel
theorem dX1_layDown_27 : decode cX1_layDown 27 = .ok (.aload_n 0, 1) := by decide +kernel
theorem dX1_layDown_28 : decode cX1_layDown 28 = .ok (.getfield 15, 3) := by decide +kernel
theorem dX1_layDown_31 : decode cX1_layDown 31 = .ok (.aload_n 0, 1) := by decide +kernel
theorem dX1_layDown_32 : decode cX1_layDown 32 = .ok (.getfield 18, 3) := by decide +kernel
theorem dX1_layDown_35 : decode cX1_layDown 35 = .ok (.iload_n 2, 1) := by decide +kernel
theorem dX1_layDown_36 : decode cX1_layDown 36 = .ok (.iastore, 1) := by decide +kernel
theorem dX1_layDown_37 : decode cX1_layDown 37 = .ok (.goto 23, 3) := by decide +kernel
theorem dX1_layDown_40 : decode cX1_layDown 40 = .ok (.aload_n 0, 1) := by decide +kernel
theorem dX1_layDown_41 : decode cX1_layDown 41 = .ok (.getfield 15, 3) := by decide +kernel
theorem dX1_layDown_44 : decode cX1_layDown 44 = .ok (.aload_n 0, 1) := by decide +kernel
theorem dX1_layDown_45 : decode cX1_layDown 45 = .ok (.getfield 18, 3) := by decide +kernel
theorem dX1_layDown_48 : decode cX1_layDown 48 = .ok (.aload_n 0, 1) := by decide +kernel
theorem dX1_layDown_49 : decode cX1_layDown 49 = .ok (.getfield 22, 3) := by decide +kernel
theorem dX1_layDown_52 : decode cX1_layDown 52 = .ok (.iadd, 1) := by decide +kernel
theorem dX1_layDown_53 : decode cX1_layDown 53 = .ok (.iconst 1, 1) := by decide +kernel
theorem dX1_layDown_54 : decode cX1_layDown 54 = .ok (.isub, 1) := by decide +kernel
theorem dX1_layDown_55 : decode cX1_layDown 55 = .ok (.bipush 63, 2) := by decide +kernel
theorem dX1_layDown_57 : decode cX1_layDown 57 = .ok (.iand, 1) := by decide +kernel
theorem dX1_layDown_58 : decode cX1_layDown 58 = .ok (.iload_n 2, 1) := by decide +kernel
theorem dX1_layDown_59 : decode cX1_layDown 59 = .ok (.iastore, 1) := by decide +kernel
theorem dX1_layDown_60 : decode cX1_layDown 60 = .ok (.return_, 1) := by decide +kernel
theorem dX1_standsAs_0 : decode cX1_standsAs 0 = .ok (.aload_n 0, 1) := by decide +kernel
theorem dX1_standsAs_1 : decode cX1_standsAs 1 = .ok (.getfield 9, 3) := by decide +kernel
theorem dX1_standsAs_4 : decode cX1_standsAs 4 = .ok (.iconst 0, 1) := by decide +kernel
theorem dX1_standsAs_5 : decode cX1_standsAs 5 = .ok (.iaload, 1) := by decide +kernel
theorem dX1_standsAs_6 : decode cX1_standsAs 6 = .ok (.aload_n 1, 1) := by decide +kernel
theorem dX1_standsAs_7 : decode cX1_standsAs 7 = .ok (.getfield 9, 3) := by decide +kernel
theorem dX1_standsAs_10 : decode cX1_standsAs 10 = .ok (.iconst 0, 1) := by decide +kernel
theorem dX1_standsAs_11 : decode cX1_standsAs 11 = .ok (.iaload, 1) := by decide +kernel
theorem dX1_standsAs_12 : decode cX1_standsAs 12 = .ok (.if_icmp .ne 22, 3) := by decide +kernel
theorem dX1_standsAs_15 : decode cX1_standsAs 15 = .ok (.aload_n 0, 1) := by decide +kernel
theorem dX1_standsAs_16 : decode cX1_standsAs 16 = .ok (.getfield 9, 3) := by decide +kernel
theorem dX1_standsAs_19 : decode cX1_standsAs 19 = .ok (.iconst 1, 1) := by decide +kernel
theorem dX1_standsAs_20 : decode cX1_standsAs 20 = .ok (.iaload, 1) := by decide +kernel
theorem dX1_standsAs_21 : decode cX1_standsAs 21 = .ok (.aload_n 1, 1) := by decide +kernel
theorem dX1_standsAs_22 : decode cX1_standsAs 22 = .ok (.getfield 9, 3) := by decide +kernel
theorem dX1_standsAs_25 : decode cX1_standsAs 25 = .ok (.iconst 1, 1) := by decide +kernel
theorem dX1_standsAs_26 : decode cX1_standsAs 26 = .ok (.iaload, 1) := by decide +kernel
theorem dX1_standsAs_27 : decode cX1_standsAs 27 = .ok (.if_icmp .ne 7, 3) := by decide +kernel
theorem dX1_standsAs_30 : decode cX1_standsAs 30 = .ok (.iconst 1, 1) := by decide +kernel
theorem dX1_standsAs_31 : decode cX1_standsAs 31 = .ok (.goto 4, 3) := by decide +kernel
theorem dX1_standsAs_34 : decode cX1_standsAs 34 = .ok (.iconst 0, 1) := by decide +kernel
theorem dX1_standsAs_35 : decode cX1_standsAs 35 = .ok (.ireturn, 1) := by decide +kernel
theorem dX1_liesAs_0 : decode cX1_liesAs 0 = .ok (.aload_n 0, 1) := by decide +kernel
theorem dX1_liesAs_1 : decode cX1_liesAs 1 = .ok (.getfield 22, 3) := by decide +kernel
theorem dX1_liesAs_4 : decode cX1_liesAs 4 = .ok (.aload_n 1, 1) := by decide +kernel
theorem dX1_liesAs_5 : decode cX1_liesAs 5 = .ok (.getfield 22, 3) := by decide +kernel
theorem dX1_liesAs_8 : decode cX1_liesAs 8 = .ok (.if_icmp .eq 5, 3) := by decide +kernel
theorem dX1_liesAs_11 : decode cX1_liesAs 11 = .ok (.iconst 0, 1) := by decide +kernel
theorem dX1_liesAs_12 : decode cX1_liesAs 12 = .ok (.ireturn, 1) := by decide +kernel
theorem dX1_liesAs_13 : decode cX1_liesAs 13 = .ok (.iconst 0, 1) := by decide +kernel
theorem dX1_liesAs_14 : decode cX1_liesAs 14 = .ok (.istore_n 2, 1) := by decide +kernel
theorem dX1_liesAs_15 : decode cX1_liesAs 15 = .ok (.iload_n 2, 1) := by decide +kernel
theorem dX1_liesAs_16 : decode cX1_liesAs 16 = .ok (.aload_n 0, 1) := by decide +kernel
theorem dX1_liesAs_17 : decode cX1_liesAs 17 = .ok (.getfield 22, 3) := by decide +kernel
theorem dX1_liesAs_20 : decode cX1_liesAs 20 = .ok (.if_icmp .ge 24, 3) := by decide +kernel
theorem dX1_liesAs_23 : decode cX1_liesAs 23 = .ok (.aload_n 0, 1) := by decide +kernel
theorem dX1_liesAs_24 : decode cX1_liesAs 24 = .ok (.iload_n 2, 1) := by decide +kernel
theorem dX1_liesAs_25 : decode cX1_liesAs 25 = .ok (.invokevirtual 36, 3) := by decide +kernel
theorem dX1_liesAs_28 : decode cX1_liesAs 28 = .ok (.aload_n 1, 1) := by decide +kernel
theorem dX1_liesAs_29 : decode cX1_liesAs 29 = .ok (.iload_n 2, 1) := by decide +kernel
theorem dX1_liesAs_30 : decode cX1_liesAs 30 = .ok (.invokevirtual 36, 3) := by decide +kernel
theorem dX1_liesAs_33 : decode cX1_liesAs 33 = .ok (.if_icmp .eq 5, 3) := by decide +kernel
theorem dX1_liesAs_36 : decode cX1_liesAs 36 = .ok (.iconst 0, 1) := by decide +kernel
theorem dX1_liesAs_37 : decode cX1_liesAs 37 = .ok (.ireturn, 1) := by decide +kernel
theorem dX1_liesAs_38 : decode cX1_liesAs 38 = .ok (.iinc 2 1, 3) := by decide +kernel
theorem dX1_liesAs_41 : decode cX1_liesAs 41 = .ok (.goto (-26), 3) := by decide +kernel
theorem dX1_liesAs_44 : decode cX1_liesAs 44 = .ok (.iconst 1, 1) := by decide +kernel
theorem dX1_liesAs_45 : decode cX1_liesAs 45 = .ok (.ireturn, 1) := by decide +kernel
theorem dX1_stepsOff_0 : decode cX1_stepsOff 0 = .ok (.aload_n 0, 1) := by decide +kernel
theorem dX1_stepsOff_1 : decode cX1_stepsOff 1 = .ok (.getfield 28, 3) := by decide +kernel
theorem dX1_stepsOff_4 : decode cX1_stepsOff 4 = .ok (.iload_n 1, 1) := by decide +kernel
theorem dX1_stepsOff_5 : decode cX1_stepsOff 5 = .ok (.invokevirtual 72, 3) := by decide +kernel
theorem dX1_stepsOff_8 : decode cX1_stepsOff 8 = .ok (.iconst (-1), 1) := by decide +kernel
theorem dX1_stepsOff_9 : decode cX1_stepsOff 9 = .ok (.istore_n 2, 1) := by decide +kernel
theorem dX1_stepsOff_10 : decode cX1_stepsOff 10 = .ok (.aload_n 0, 1) := by decide +kernel
theorem dX1_stepsOff_11 : decode cX1_stepsOff 11 = .ok (.getfield 9, 3) := by decide +kernel
theorem dX1_stepsOff_14 : decode cX1_stepsOff 14 = .ok (.iconst 0, 1) := by decide +kernel
theorem dX1_stepsOff_15 : decode cX1_stepsOff 15 = .ok (.iaload, 1) := by decide +kernel
theorem dX1_stepsOff_16 : decode cX1_stepsOff 16 = .ok (.istore_n 3, 1) := by decide +kernel
theorem dX1_stepsOff_17 : decode cX1_stepsOff 17 = .ok (.iconst 0, 1) := by decide +kernel
theorem dX1_stepsOff_18 : decode cX1_stepsOff 18 = .ok (.istore 4, 2) := by decide +kernel
theorem dX1_stepsOff_20 : decode cX1_stepsOff 20 = .ok (.iload 4, 2) := by decide +kernel
theorem dX1_stepsOff_22 : decode cX1_stepsOff 22 = .ok (.aload_n 0, 1) := by decide +kernel
theorem dX1_stepsOff_23 : decode cX1_stepsOff 23 = .ok (.getfield 22, 3) := by decide +kernel
theorem dX1_stepsOff_26 : decode cX1_stepsOff 26 = .ok (.if_icmp .gt 77, 3) := by decide +kernel
theorem dX1_stepsOff_29 : decode cX1_stepsOff 29 = .ok (.iload_n 3, 1) := by decide +kernel
theorem dX1_stepsOff_30 : decode cX1_stepsOff 30 = .ok (.bipush 8, 2) := by decide +kernel
theorem dX1_stepsOff_32 : decode cX1_stepsOff 32 = .ok (.invokestatic 50, 3) := by decide +kernel
theorem dX1_stepsOff_35 : decode cX1_stepsOff 35 = .ok (.ifCond .eq 15, 3) := by decide +kernel
theorem dX1_stepsOff_38 : decode cX1_stepsOff 38 = .ok (.aload_n 0, 1) := by decide +kernel
theorem dX1_stepsOff_39 : decode cX1_stepsOff 39 = .ok (.getfield 28, 3) := by decide +kernel
theorem dX1_stepsOff_42 : decode cX1_stepsOff 42 = .ok (.getfield 75, 3) := by decide +kernel
theorem dX1_stepsOff_45 : decode cX1_stepsOff 45 = .ok (.iload_n 3, 1) := by decide +kernel
theorem dX1_stepsOff_46 : decode cX1_stepsOff 46 = .ok (.iaload, 1) := by decide +kernel
theorem dX1_stepsOff_47 : decode cX1_stepsOff 47 = .ok (.goto 4, 3) := by decide +kernel
theorem dX1_stepsOff_50 : decode cX1_stepsOff 50 = .ok (.iconst (-1), 1) := by decide +kernel
theorem dX1_stepsOff_51 : decode cX1_stepsOff 51 = .ok (.istore 5, 2) := by decide +kernel
theorem dX1_stepsOff_53 : decode cX1_stepsOff 53 = .ok (.iload 5, 2) := by decide +kernel
theorem dX1_stepsOff_55 : decode cX1_stepsOff 55 = .ok (.iconst (-1), 1) := by decide +kernel
theorem dX1_stepsOff_56 : decode cX1_stepsOff 56 = .ok (.if_icmp .eq 17, 3) := by decide +kernel
theorem dX1_stepsOff_59 : decode cX1_stepsOff 59 = .ok (.iload_n 2, 1) := by decide +kernel
theorem dX1_stepsOff_60 : decode cX1_stepsOff 60 = .ok (.iconst (-1), 1) := by decide +kernel
theorem dX1_stepsOff_61 : decode cX1_stepsOff 61 = .ok (.if_icmp .eq 9, 3) := by decide +kernel
theorem dX1_stepsOff_64 : decode cX1_stepsOff 64 = .ok (.iload 5, 2) := by decide +kernel
theorem dX1_stepsOff_66 : decode cX1_stepsOff 66 = .ok (.iload_n 2, 1) := by decide +kernel
theorem dX1_stepsOff_67 : decode cX1_stepsOff 67 = .ok (.if_icmp .ge 6, 3) := by decide +kernel
theorem dX1_stepsOff_70 : decode cX1_stepsOff 70 = .ok (.iload 5, 2) := by decide +kernel
theorem dX1_stepsOff_72 : decode cX1_stepsOff 72 = .ok (.istore_n 2, 1) := by decide +kernel
theorem dX1_stepsOff_73 : decode cX1_stepsOff 73 = .ok (.iload 4, 2) := by decide +kernel
theorem dX1_stepsOff_75 : decode cX1_stepsOff 75 = .ok (.aload_n 0, 1) := by decide +kernel
theorem dX1_stepsOff_76 : decode cX1_stepsOff 76 = .ok (.getfield 22, 3) := by decide +kernel
theorem dX1_stepsOff_79 : decode cX1_stepsOff 79 = .ok (.if_icmp .ge 18, 3) := by decide +kernel
theorem dX1_stepsOff_82 : decode cX1_stepsOff 82 = .ok (.aload_n 0, 1) := by decide +kernel
theorem dX1_stepsOff_83 : decode cX1_stepsOff 83 = .ok (.getfield 28, 3) := by decide +kernel
theorem dX1_stepsOff_86 : decode cX1_stepsOff 86 = .ok (.aload_n 0, 1) := by decide +kernel
theorem dX1_stepsOff_87 : decode cX1_stepsOff 87 = .ok (.iload 4, 2) := by decide +kernel
theorem dX1_stepsOff_89 : decode cX1_stepsOff 89 = .ok (.invokevirtual 36, 3) := by decide +kernel
theorem dX1_stepsOff_92 : decode cX1_stepsOff 92 = .ok (.iload_n 3, 1) := by decide +kernel
theorem dX1_stepsOff_93 : decode cX1_stepsOff 93 = .ok (.invokevirtual 69, 3) := by decide +kernel
theorem dX1_stepsOff_96 : decode cX1_stepsOff 96 = .ok (.istore_n 3, 1) := by decide +kernel
theorem dX1_stepsOff_97 : decode cX1_stepsOff 97 = .ok (.iinc 4 1, 3) := by decide +kernel
theorem dX1_stepsOff_100 : decode cX1_stepsOff 100 = .ok (.goto (-80), 3) := by decide +kernel
theorem dX1_stepsOff_103 : decode cX1_stepsOff 103 = .ok (.iload_n 2, 1) := by decide +kernel
theorem dX1_stepsOff_104 : decode cX1_stepsOff 104 = .ok (.ireturn, 1) := by decide +kernel
theorem dX1_asKey_0 : decode cX1_asKey 0 = .ok (.lconst 1, 1) := by decide +kernel
theorem dX1_asKey_1 : decode cX1_asKey 1 = .ok (.lstore_n 1, 1) := by decide +kernel
theorem dX1_asKey_2 : decode cX1_asKey 2 = .ok (.iconst 0, 1) := by decide +kernel
theorem dX1_asKey_3 : decode cX1_asKey 3 = .ok (.istore_n 3, 1) := by decide +kernel
theorem dX1_asKey_4 : decode cX1_asKey 4 = .ok (.iload_n 3, 1) := by decide +kernel
theorem dX1_asKey_5 : decode cX1_asKey 5 = .ok (.aload_n 0, 1) := by decide +kernel
theorem dX1_asKey_6 : decode cX1_asKey 6 = .ok (.getfield 22, 3) := by decide +kernel
theorem dX1_asKey_9 : decode cX1_asKey 9 = .ok (.if_icmp .ge 20, 3) := by decide +kernel
theorem dX1_asKey_12 : decode cX1_asKey 12 = .ok (.lload_n 1, 1) := by decide +kernel
theorem dX1_asKey_13 : decode cX1_asKey 13 = .ok (.iconst 3, 1) := by decide +kernel
theorem dX1_asKey_14 : decode cX1_asKey 14 = .ok (.lshl, 1) := by decide +kernel
theorem dX1_asKey_15 : decode cX1_asKey 15 = .ok (.aload_n 0, 1) := by decide +kernel
theorem dX1_asKey_16 : decode cX1_asKey 16 = .ok (.iload_n 3, 1) := by decide +kernel
theorem dX1_asKey_17 : decode cX1_asKey 17 = .ok (.invokevirtual 36, 3) := by decide +kernel
theorem dX1_asKey_20 : decode cX1_asKey 20 = .ok (.i2l, 1) := by decide +kernel
theorem dX1_asKey_21 : decode cX1_asKey 21 = .ok (.lor, 1) := by decide +kernel
theorem dX1_asKey_22 : decode cX1_asKey 22 = .ok (.lstore_n 1, 1) := by decide +kernel
theorem dX1_asKey_23 : decode cX1_asKey 23 = .ok (.iinc 3 1, 3) := by decide +kernel
theorem dX1_asKey_26 : decode cX1_asKey 26 = .ok (.goto (-22), 3) := by decide +kernel
theorem dX1_asKey_29 : decode cX1_asKey 29 = .ok (.lload_n 1, 1) := by decide +kernel
theorem dX1_asKey_30 : decode cX1_asKey 30 = .ok (.iconst 3, 1) := by decide +kernel
theorem dX1_asKey_31 : decode cX1_asKey 31 = .ok (.lshl, 1) := by decide +kernel
theorem dX1_asKey_32 : decode cX1_asKey 32 = .ok (.aload_n 0, 1) := by decide +kernel
theorem dX1_asKey_33 : decode cX1_asKey 33 = .ok (.getfield 9, 3) := by decide +kernel
theorem dX1_asKey_36 : decode cX1_asKey 36 = .ok (.iconst 1, 1) := by decide +kernel
theorem dX1_asKey_37 : decode cX1_asKey 37 = .ok (.iaload, 1) := by decide +kernel
theorem dX1_asKey_38 : decode cX1_asKey 38 = .ok (.i2l, 1) := by decide +kernel
theorem dX1_asKey_39 : decode cX1_asKey 39 = .ok (.lor, 1) := by decide +kernel
theorem dX1_asKey_40 : decode cX1_asKey 40 = .ok (.lreturn, 1) := by decide +kernel
theorem dX1_becomeKey_0 : decode cX1_becomeKey 0 = .ok (.aload_n 0, 1) := by decide +kernel
theorem dX1_becomeKey_1 : decode cX1_becomeKey 1 = .ok (.lload_n 1, 1) := by decide +kernel
theorem dX1_becomeKey_2 : decode cX1_becomeKey 2 = .ok (.ldc2_w 78, 3) := by decide +kernel
theorem dX1_becomeKey_5 : decode cX1_becomeKey 5 = .ok (.land, 1) := by decide +kernel
theorem dX1_becomeKey_6 : decode cX1_becomeKey 6 = .ok (.l2i, 1) := by decide +kernel
theorem dX1_becomeKey_7 : decode cX1_becomeKey 7 = .ok (.invokevirtual 32, 3) := by decide +kernel
theorem dX1_becomeKey_10 : decode cX1_becomeKey 10 = .ok (.lload_n 1, 1) := by decide +kernel
theorem dX1_becomeKey_11 : decode cX1_becomeKey 11 = .ok (.iconst 3, 1) := by decide +kernel
theorem dX1_becomeKey_12 : decode cX1_becomeKey 12 = .ok (.lshr, 1) := by decide +kernel
theorem dX1_becomeKey_13 : decode cX1_becomeKey 13 = .ok (.lstore_n 3, 1) := by decide +kernel
theorem dX1_becomeKey_14 : decode cX1_becomeKey 14 = .ok (.iconst 0, 1) := by decide +kernel
theorem dX1_becomeKey_15 : decode cX1_becomeKey 15 = .ok (.istore 5, 2) := by decide +kernel
theorem dX1_becomeKey_17 : decode cX1_becomeKey 17 = .ok (.iload 5, 2) := by decide +kernel
theorem dX1_becomeKey_19 : decode cX1_becomeKey 19 = .ok (.bipush 18, 2) := by decide +kernel
theorem dX1_becomeKey_21 : decode cX1_becomeKey 21 = .ok (.if_icmp .ge 30, 3) := by decide +kernel
theorem dX1_becomeKey_24 : decode cX1_becomeKey 24 = .ok (.lload_n 3, 1) := by decide +kernel
theorem dX1_becomeKey_25 : decode cX1_becomeKey 25 = .ok (.lconst 1, 1) := by decide +kernel
theorem dX1_becomeKey_26 : decode cX1_becomeKey 26 = .ok (.lcmp, 1) := by decide +kernel
theorem dX1_becomeKey_27 : decode cX1_becomeKey 27 = .ok (.ifCond .le 24, 3) := by decide +kernel
theorem dX1_becomeKey_30 : decode cX1_becomeKey 30 = .ok (.aload_n 0, 1) := by decide +kernel
theorem dX1_becomeKey_31 : decode cX1_becomeKey 31 = .ok (.iconst 0, 1) := by decide +kernel
theorem dX1_becomeKey_32 : decode cX1_becomeKey 32 = .ok (.lload_n 3, 1) := by decide +kernel
theorem dX1_becomeKey_33 : decode cX1_becomeKey 33 = .ok (.ldc2_w 78, 3) := by decide +kernel
theorem dX1_becomeKey_36 : decode cX1_becomeKey 36 = .ok (.land, 1) := by decide +kernel
theorem dX1_becomeKey_37 : decode cX1_becomeKey 37 = .ok (.l2i, 1) := by decide +kernel
theorem dX1_becomeKey_38 : decode cX1_becomeKey 38 = .ok (.invokevirtual 40, 3) := by decide +kernel
theorem dX1_becomeKey_41 : decode cX1_becomeKey 41 = .ok (.lload_n 3, 1) := by decide +kernel
theorem dX1_becomeKey_42 : decode cX1_becomeKey 42 = .ok (.iconst 3, 1) := by decide +kernel
theorem dX1_becomeKey_43 : decode cX1_becomeKey 43 = .ok (.lshr, 1) := by decide +kernel
theorem dX1_becomeKey_44 : decode cX1_becomeKey 44 = .ok (.lstore_n 3, 1) := by decide +kernel
theorem dX1_becomeKey_45 : decode cX1_becomeKey 45 = .ok (.iinc 5 1, 3) := by decide +kernel
theorem dX1_becomeKey_48 : decode cX1_becomeKey 48 = .ok (.goto (-31), 3) := by decide +kernel
theorem dX1_becomeKey_51 : decode cX1_becomeKey 51 = .ok (.return_, 1) := by decide +kernel
theorem dX2_init_0 : decode cX2_init 0 = .ok (.aload_n 0, 1) := by decide +kernel
theorem dX2_init_1 : decode cX2_init 1 = .ok (.invokespecial 3, 3) := by decide +kernel
theorem dX2_init_4 : decode cX2_init 4 = .ok (.aload_n 0, 1) := by decide +kernel
theorem dX2_init_5 : decode cX2_init 5 = .ok (.new 9, 3) := by decide +kernel
theorem dX2_init_8 : decode cX2_init 8 = .ok (.dup, 1) := by decide +kernel
theorem dX2_init_9 : decode cX2_init 9 = .ok (.invokespecial 11, 3) := by decide +kernel
theorem dX2_init_12 : decode cX2_init 12 = .ok (.putfield 12, 3) := by decide +kernel
theorem dX2_init_15 : decode cX2_init 15 = .ok (.aload_n 0, 1) := by decide +kernel
theorem dX2_init_16 : decode cX2_init 16 = .ok (.iconst 2, 1) := by decide +kernel
theorem dX2_init_17 : decode cX2_init 17 = .ok (.newarray .int, 2) := by decide +kernel
theorem dX2_init_19 : decode cX2_init 19 = .ok (.dup, 1) := by decide +kernel
theorem dX2_init_20 : decode cX2_init 20 = .ok (.iconst 0, 1) := by decide +kernel
theorem dX2_init_21 : decode cX2_init 21 = .ok (.iconst 5, 1) := by decide +kernel
theorem dX2_init_22 : decode cX2_init 22 = .ok (.iastore, 1) := by decide +kernel
theorem dX2_init_23 : decode cX2_init 23 = .ok (.dup, 1) := by decide +kernel
theorem dX2_init_24 : decode cX2_init 24 = .ok (.iconst 1, 1) := by decide +kernel
theorem dX2_init_25 : decode cX2_init 25 = .ok (.iconst 5, 1) := by decide +kernel
theorem dX2_init_26 : decode cX2_init 26 = .ok (.iastore, 1) := by decide +kernel
theorem dX2_init_27 : decode cX2_init 27 = .ok (.putfield 18, 3) := by decide +kernel
theorem dX2_init_30 : decode cX2_init 30 = .ok (.aload_n 0, 1) := by decide +kernel
theorem dX2_init_31 : decode cX2_init 31 = .ok (.bipush 8, 2) := by decide +kernel
theorem dX2_init_33 : decode cX2_init 33 = .ok (.newarray .int, 2) := by decide +kernel
theorem dX2_init_35 : decode cX2_init 35 = .ok (.putfield 22, 3) := by decide +kernel
theorem dX2_init_38 : decode cX2_init 38 = .ok (.aload_n 0, 1) := by decide +kernel
theorem dX2_init_39 : decode cX2_init 39 = .ok (.bipush 8, 2) := by decide +kernel
theorem dX2_init_41 : decode cX2_init 41 = .ok (.newarray .int, 2) := by decide +kernel
theorem dX2_init_43 : decode cX2_init 43 = .ok (.putfield 25, 3) := by decide +kernel
theorem dX2_init_46 : decode cX2_init 46 = .ok (.aload_n 0, 1) := by decide +kernel
theorem dX2_init_47 : decode cX2_init 47 = .ok (.bipush 8, 2) := by decide +kernel
theorem dX2_init_49 : decode cX2_init 49 = .ok (.newarray .int, 2) := by decide +kernel
theorem dX2_init_51 : decode cX2_init 51 = .ok (.putfield 28, 3) := by decide +kernel
theorem dX2_init_54 : decode cX2_init 54 = .ok (.aload_n 0, 1) := by decide +kernel
theorem dX2_init_55 : decode cX2_init 55 = .ok (.bipush 8, 2) := by decide +kernel
theorem dX2_init_57 : decode cX2_init 57 = .ok (.newarray .int, 2) := by decide +kernel
theorem dX2_init_59 : decode cX2_init 59 = .ok (.putfield 31, 3) := by decide +kernel
theorem dX2_init_62 : decode cX2_init 62 = .ok (.aload_n 0, 1) := by decide +kernel
theorem dX2_init_63 : decode cX2_init 63 = .ok (.bipush 8, 2) := by decide +kernel
theorem dX2_init_65 : decode cX2_init 65 = .ok (.newarray .int, 2) := by decide +kernel
theorem dX2_init_67 : decode cX2_init 67 = .ok (.putfield 34, 3) := by decide +kernel
theorem dX2_init_70 : decode cX2_init 70 = .ok (.aload_n 0, 1) := by decide +kernel
theorem dX2_init_71 : decode cX2_init 71 = .ok (.bipush 9, 2) := by decide +kernel
theorem dX2_init_73 : decode cX2_init 73 = .ok (.putfield 37, 3) := by decide +kernel
theorem dX2_init_76 : decode cX2_init 76 = .ok (.aload_n 0, 1) := by decide +kernel
theorem dX2_init_77 : decode cX2_init 77 = .ok (.iconst 0, 1) := by decide +kernel
theorem dX2_init_78 : decode cX2_init 78 = .ok (.putfield 41, 3) := by decide +kernel
theorem dX2_init_81 : decode cX2_init 81 = .ok (.aload_n 0, 1) := by decide +kernel
theorem dX2_init_82 : decode cX2_init 82 = .ok (.iconst (-1), 1) := by decide +kernel
theorem dX2_init_83 : decode cX2_init 83 = .ok (.putfield 44, 3) := by decide +kernel
theorem dX2_init_86 : decode cX2_init 86 = .ok (.return_, 1) := by decide +kernel
theorem dX2_survey_0 : decode cX2_survey 0 = .ok (.aload_n 0, 1) := by decide +kernel
theorem dX2_survey_1 : decode cX2_survey 1 = .ok (.aload_n 0, 1) := by decide +kernel
theorem dX2_survey_2 : decode cX2_survey 2 = .ok (.invokevirtual 47, 3) := by decide +kernel
theorem dX2_survey_5 : decode cX2_survey 5 = .ok (.putfield 44, 3) := by decide +kernel
theorem dX2_survey_8 : decode cX2_survey 8 = .ok (.aload_n 0, 1) := by decide +kernel
theorem dX2_survey_9 : decode cX2_survey 9 = .ok (.aload_n 0, 1) := by decide +kernel
theorem dX2_survey_10 : decode cX2_survey 10 = .ok (.getfield 44, 3) := by decide +kernel
theorem dX2_survey_13 : decode cX2_survey 13 = .ok (.iconst (-1), 1) := by decide +kernel
theorem dX2_survey_14 : decode cX2_survey 14 = .ok (.if_icmp .ne 17, 3) := by decide +kernel
theorem dX2_survey_17 : decode cX2_survey 17 = .ok (.aload_n 0, 1) := by decide +kernel
theorem dX2_survey_18 : decode cX2_survey 18 = .ok (.getfield 12, 3) := by decide +kernel
theorem dX2_survey_21 : decode cX2_survey 21 = .ok (.getfield 51, 3) := by decide +kernel
theorem dX2_survey_24 : decode cX2_survey 24 = .ok (.iconst 1, 1) := by decide +kernel
theorem dX2_survey_25 : decode cX2_survey 25 = .ok (.iadd, 1) := by decide +kernel
theorem dX2_survey_26 : decode cX2_survey 26 = .ok (.iconst 2, 1) := by decide +kernel
theorem dX2_survey_27 : decode cX2_survey 27 = .ok (.ishr, 1) := by decide +kernel
theorem dX2_survey_28 : decode cX2_survey 28 = .ok (.goto 4, 3) := by decide +kernel
theorem dX2_survey_31 : decode cX2_survey 31 = .ok (.iconst 0, 1) := by decide +kernel
theorem dX2_survey_32 : decode cX2_survey 32 = .ok (.putfield 41, 3) := by decide +kernel
theorem dX2_survey_35 : decode cX2_survey 35 = .ok (.iconst 0, 1) := by decide +kernel
theorem dX2_survey_36 : decode cX2_survey 36 = .ok (.istore_n 1, 1) := by decide +kernel
theorem dX2_survey_37 : decode cX2_survey 37 = .ok (.iload_n 1, 1) := by decide +kernel
theorem dX2_survey_38 : decode cX2_survey 38 = .ok (.aload_n 0, 1) := by decide +kernel
theorem dX2_survey_39 : decode cX2_survey 39 = .ok (.getfield 41, 3) := by decide +kernel
theorem dX2_survey_42 : decode cX2_survey 42 = .ok (.if_icmp .ge 51, 3) := by decide +kernel
theorem dX2_survey_45 : decode cX2_survey 45 = .ok (.iload_n 1, 1) := by decide +kernel
theorem dX2_survey_46 : decode cX2_survey 46 = .ok (.bipush 8, 2) := by decide +kernel
theorem dX2_survey_48 : decode cX2_survey 48 = .ok (.if_icmp .ge 45, 3) := by decide +kernel
theorem dX2_survey_51 : decode cX2_survey 51 = .ok (.aload_n 0, 1) := by decide +kernel
theorem dX2_survey_52 : decode cX2_survey 52 = .ok (.getfield 28, 3) := by decide +kernel
theorem dX2_survey_55 : decode cX2_survey 55 = .ok (.iload_n 1, 1) := by decide +kernel
theorem dX2_survey_56 : decode cX2_survey 56 = .ok (.aload_n 0, 1) := by decide +kernel
theorem dX2_survey_57 : decode cX2_survey 57 = .ok (.iload_n 1, 1) := by decide +kernel
theorem dX2_survey_58 : decode cX2_survey 58 = .ok (.iconst 0, 1) := by decide +kernel
theorem dX2_survey_59 : decode cX2_survey 59 = .ok (.invokevirtual 54, 3) := by decide +kernel
theorem dX2_survey_62 : decode cX2_survey 62 = .ok (.iastore, 1) := by decide +kernel
theorem dX2_survey_63 : decode cX2_survey 63 = .ok (.aload_n 0, 1) := by decide +kernel
theorem dX2_survey_64 : decode cX2_survey 64 = .ok (.getfield 31, 3) := by decide +kernel
theorem dX2_survey_67 : decode cX2_survey 67 = .ok (.iload_n 1, 1) := by decide +kernel
theorem dX2_survey_68 : decode cX2_survey 68 = .ok (.aload_n 0, 1) := by decide +kernel
theorem dX2_survey_69 : decode cX2_survey 69 = .ok (.iload_n 1, 1) := by decide +kernel
theorem dX2_survey_70 : decode cX2_survey 70 = .ok (.iconst 1, 1) := by decide +kernel
theorem dX2_survey_71 : decode cX2_survey 71 = .ok (.invokevirtual 54, 3) := by decide +kernel
theorem dX2_survey_74 : decode cX2_survey 74 = .ok (.iastore, 1) := by decide +kernel
theorem dX2_survey_75 : decode cX2_survey 75 = .ok (.aload_n 0, 1) := by decide +kernel
theorem dX2_survey_76 : decode cX2_survey 76 = .ok (.getfield 34, 3) := by decide +kernel
theorem dX2_survey_79 : decode cX2_survey 79 = .ok (.iload_n 1, 1) := by decide +kernel
theorem dX2_survey_80 : decode cX2_survey 80 = .ok (.aload_n 0, 1) := by decide +kernel
theorem dX2_survey_81 : decode cX2_survey 81 = .ok (.iload_n 1, 1) := by decide +kernel
theorem dX2_survey_82 : decode cX2_survey 82 = .ok (.iconst 2, 1) := by decide +kernel
theorem dX2_survey_83 : decode cX2_survey 83 = .ok (.invokevirtual 54, 3) := by decide +kernel
theorem dX2_survey_86 : decode cX2_survey 86 = .ok (.iastore, 1) := by decide +kernel
theorem dX2_survey_87 : decode cX2_survey 87 = .ok (.iinc 1 1, 3) := by decide +kernel
theorem dX2_survey_90 : decode cX2_survey 90 = .ok (.goto (-53), 3) := by decide +kernel
theorem dX2_survey_93 : decode cX2_survey 93 = .ok (.return_, 1) := by decide +kernel
theorem dX2_firstFault_0 : decode cX2_firstFault 0 = .ok (.iconst 0, 1) := by decide +kernel
theorem dX2_firstFault_1 : decode cX2_firstFault 1 = .ok (.istore_n 1, 1) := by decide +kernel
theorem dX2_firstFault_2 : decode cX2_firstFault 2 = .ok (.iload_n 1, 1) := by decide +kernel
theorem dX2_firstFault_3 : decode cX2_firstFault 3 = .ok (.aload_n 0, 1) := by decide +kernel
theorem dX2_firstFault_4 : decode cX2_firstFault 4 = .ok (.getfield 12, 3) := by decide +kernel
theorem dX2_firstFault_7 : decode cX2_firstFault 7 = .ok (.getfield 51, 3) := by decide +kernel
theorem dX2_firstFault_10 : decode cX2_firstFault 10 = .ok (.if_icmp .ge 19, 3) := by decide +kernel
theorem dX2_firstFault_13 : decode cX2_firstFault 13 = .ok (.aload_n 0, 1) := by decide +kernel
theorem dX2_firstFault_14 : decode cX2_firstFault 14 = .ok (.iload_n 1, 1) := by decide +kernel
theorem dX2_firstFault_15 : decode cX2_firstFault 15 = .ok (.invokevirtual 58, 3) := by decide +kernel
theorem dX2_firstFault_18 : decode cX2_firstFault 18 = .ok (.ifCond .ne 5, 3) := by decide +kernel
theorem dX2_firstFault_21 : decode cX2_firstFault 21 = .ok (.iload_n 1, 1) := by decide +kernel
theorem dX2_firstFault_22 : decode cX2_firstFault 22 = .ok (.ireturn, 1) := by decide +kernel
theorem dX2_firstFault_23 : decode cX2_firstFault 23 = .ok (.iinc 1 1, 3) := by decide +kernel
theorem dX2_firstFault_26 : decode cX2_firstFault 26 = .ok (.goto (-24), 3) := by decide +kernel
theorem dX2_firstFault_29 : decode cX2_firstFault 29 = .ok (.aload_n 0, 1) := by decide +kernel
theorem dX2_firstFault_30 : decode cX2_firstFault 30 = .ok (.getfield 12, 3) := by decide +kernel
theorem dX2_firstFault_33 : decode cX2_firstFault 33 = .ok (.getfield 51, 3) := by decide +kernel
theorem dX2_firstFault_36 : decode cX2_firstFault 36 = .ok (.ifCond .eq 16, 3) := by decide +kernel
theorem dX2_firstFault_39 : decode cX2_firstFault 39 = .ok (.aload_n 0, 1) := by decide +kernel
theorem dX2_firstFault_40 : decode cX2_firstFault 40 = .ok (.getfield 12, 3) := by decide +kernel
theorem dX2_firstFault_43 : decode cX2_firstFault 43 = .ok (.getfield 51, 3) := by decide +kernel
theorem dX2_firstFault_46 : decode cX2_firstFault 46 = .ok (.iconst 3, 1) := by decide +kernel
theorem dX2_firstFault_47 : decode cX2_firstFault 47 = .ok (.iand, 1) := by decide +kernel
theorem dX2_firstFault_48 : decode cX2_firstFault 48 = .ok (.iconst 3, 1) := by decide +kernel
theorem dX2_firstFault_49 : decode cX2_firstFault 49 = .ok (.if_icmp .ne 7, 3) := by decide +kernel
theorem dX2_firstFault_52 : decode cX2_firstFault 52 = .ok (.iconst (-1), 1) := by decide +kernel
theorem dX2_firstFault_53 : decode cX2_firstFault 53 = .ok (.goto 10, 3) := by decide +kernel
theorem dX2_firstFault_56 : decode cX2_firstFault 56 = .ok (.aload_n 0, 1) := by decide +kernel
theorem dX2_firstFault_57 : decode cX2_firstFault 57 = .ok (.getfield 12, 3) := by decide +kernel
theorem dX2_firstFault_60 : decode cX2_firstFault 60 = .ok (.getfield 51, 3) := by decide +kernel
theorem dX2_firstFault_63 : decode cX2_firstFault 63 = .ok (.ireturn, 1) := by decide +kernel
theorem dX2_fits_0 : decode cX2_fits 0 = .ok (.aload_n 0, 1) := by decide +kernel
theorem dX2_fits_1 : decode cX2_fits 1 = .ok (.getfield 12, 3) := by decide +kernel
theorem dX2_fits_4 : decode cX2_fits 4 = .ok (.iload_n 1, 1) := by decide +kernel
theorem dX2_fits_5 : decode cX2_fits 5 = .ok (.invokevirtual 62, 3) := by decide +kernel
theorem dX2_fits_8 : decode cX2_fits 8 = .ok (.istore_n 2, 1) := by decide +kernel
theorem dX2_fits_9 : decode cX2_fits 9 = .ok (.iload_n 1, 1) := by decide +kernel
theorem dX2_fits_10 : decode cX2_fits 10 = .ok (.iconst 3, 1) := by decide +kernel
theorem dX2_fits_11 : decode cX2_fits 11 = .ok (.iand, 1) := by decide +kernel
theorem dX2_fits_12 : decode cX2_fits 12 = .ok (.tableswitch 92 0 2 #[28, 47, 74], 28) := by decide +kernel
theorem dX2_fits_40 : decode cX2_fits 40 = .ok (.iload_n 1, 1) := by decide +kernel
theorem dX2_fits_41 : decode cX2_fits 41 = .ok (.bipush 32, 2) := by decide +kernel
theorem dX2_fits_43 : decode cX2_fits 43 = .ok (.if_icmp .ge 14, 3) := by decide +kernel
theorem dX2_fits_46 : decode cX2_fits 46 = .ok (.iload_n 2, 1) := by decide +kernel
theorem dX2_fits_47 : decode cX2_fits 47 = .ok (.invokestatic 66, 3) := by decide +kernel
theorem dX2_fits_50 : decode cX2_fits 50 = .ok (.ifCond .eq 7, 3) := by decide +kernel
theorem dX2_fits_53 : decode cX2_fits 53 = .ok (.iconst 1, 1) := by decide +kernel
theorem dX2_fits_54 : decode cX2_fits 54 = .ok (.goto 4, 3) := by decide +kernel
theorem dX2_fits_57 : decode cX2_fits 57 = .ok (.iconst 0, 1) := by decide +kernel
theorem dX2_fits_58 : decode cX2_fits 58 = .ok (.ireturn, 1) := by decide +kernel
theorem dX2_fits_59 : decode cX2_fits 59 = .ok (.iload_n 2, 1) := by decide +kernel
theorem dX2_fits_60 : decode cX2_fits 60 = .ok (.invokestatic 66, 3) := by decide +kernel
theorem dX2_fits_63 : decode cX2_fits 63 = .ok (.ifCond .eq 21, 3) := by decide +kernel
theorem dX2_fits_66 : decode cX2_fits 66 = .ok (.iload_n 2, 1) := by decide +kernel
theorem dX2_fits_67 : decode cX2_fits 67 = .ok (.aload_n 0, 1) := by decide +kernel
theorem dX2_fits_68 : decode cX2_fits 68 = .ok (.getfield 12, 3) := by decide +kernel
theorem dX2_fits_71 : decode cX2_fits 71 = .ok (.iload_n 1, 1) := by decide +kernel
theorem dX2_fits_72 : decode cX2_fits 72 = .ok (.iconst 1, 1) := by decide +kernel
theorem dX2_fits_73 : decode cX2_fits 73 = .ok (.isub, 1) := by decide +kernel
theorem dX2_fits_74 : decode cX2_fits 74 = .ok (.invokevirtual 62, 3) := by decide +kernel
theorem dX2_fits_77 : decode cX2_fits 77 = .ok (.if_icmp .eq 7, 3) := by decide +kernel
theorem dX2_fits_80 : decode cX2_fits 80 = .ok (.iconst 1, 1) := by decide +kernel
theorem dX2_fits_81 : decode cX2_fits 81 = .ok (.goto 4, 3) := by decide +kernel
theorem dX2_fits_84 : decode cX2_fits 84 = .ok (.iconst 0, 1) := by decide +kernel
theorem dX2_fits_85 : decode cX2_fits 85 = .ok (.ireturn, 1) := by decide +kernel
theorem dX2_fits_86 : decode cX2_fits 86 = .ok (.iload_n 2, 1) := by decide +kernel
theorem dX2_fits_87 : decode cX2_fits 87 = .ok (.bipush 49, 2) := by decide +kernel
theorem dX2_fits_89 : decode cX2_fits 89 = .ok (.if_icmp .lt 13, 3) := by decide +kernel
theorem dX2_fits_92 : decode cX2_fits 92 = .ok (.iload_n 2, 1) := by decide +kernel
theorem dX2_fits_93 : decode cX2_fits 93 = .ok (.bipush 57, 2) := by decide +kernel
theorem dX2_fits_95 : decode cX2_fits 95 = .ok (.if_icmp .gt 7, 3) := by decide +kernel
theorem dX2_fits_98 : decode cX2_fits 98 = .ok (.iconst 1, 1) := by decide +kernel
theorem dX2_fits_99 : decode cX2_fits 99 = .ok (.goto 4, 3) := by decide +kernel
theorem dX2_fits_102 : decode cX2_fits 102 = .ok (.iconst 0, 1) := by decide +kernel
theorem dX2_fits_103 : decode cX2_fits 103 = .ok (.ireturn, 1) := by decide +kernel
theorem dX2_fits_104 : decode cX2_fits 104 = .ok (.iload_n 2, 1) := by decide +kernel
theorem dX2_fits_105 : decode cX2_fits 105 = .ok (.bipush 59, 2) := by decide +kernel
theorem dX2_fits_107 : decode cX2_fits 107 = .ok (.if_icmp .ne 7, 3) := by decide +kernel
theorem dX2_fits_110 : decode cX2_fits 110 = .ok (.iconst 1, 1) := by decide +kernel
theorem dX2_fits_111 : decode cX2_fits 111 = .ok (.goto 4, 3) := by decide +kernel
theorem dX2_fits_114 : decode cX2_fits 114 = .ok (.iconst 0, 1) := by decide +kernel
theorem dX2_fits_115 : decode cX2_fits 115 = .ok (.ireturn, 1) := by decide +kernel
theorem dX2_isPlace_0 : decode cX2_isPlace 0 = .ok (.iload_n 0, 1) := by decide +kernel
theorem dX2_isPlace_1 : decode cX2_isPlace 1 = .ok (.bipush 48, 2) := by decide +kernel
theorem dX2_isPlace_3 : decode cX2_isPlace 3 = .ok (.if_icmp .lt 13, 3) := by decide +kernel
theorem dX2_isPlace_6 : decode cX2_isPlace 6 = .ok (.iload_n 0, 1) := by decide +kernel
theorem dX2_isPlace_7 : decode cX2_isPlace 7 = .ok (.bipush 55, 2) := by decide +kernel
theorem dX2_isPlace_9 : decode cX2_isPlace 9 = .ok (.if_icmp .gt 7, 3) := by decide +kernel
theorem dX2_isPlace_12 : decode cX2_isPlace 12 = .ok (.iconst 1, 1) := by decide +kernel
theorem dX2_isPlace_13 : decode cX2_isPlace 13 = .ok (.goto 4, 3) := by decide +kernel
theorem dX2_isPlace_16 : decode cX2_isPlace 16 = .ok (.iconst 0, 1) := by decide +kernel
theorem dX2_isPlace_17 : decode cX2_isPlace 17 = .ok (.ireturn, 1) := by decide +kernel
theorem dX2_figure_0 : decode cX2_figure 0 = .ok (.aload_n 0, 1) := by decide +kernel
theorem dX2_figure_1 : decode cX2_figure 1 = .ok (.getfield 12, 3) := by decide +kernel
theorem dX2_figure_4 : decode cX2_figure 4 = .ok (.iconst 4, 1) := by decide +kernel
theorem dX2_figure_5 : decode cX2_figure 5 = .ok (.iload_n 1, 1) := by decide +kernel
theorem dX2_figure_6 : decode cX2_figure 6 = .ok (.imul, 1) := by decide +kernel
theorem dX2_figure_7 : decode cX2_figure 7 = .ok (.iload_n 2, 1) := by decide +kernel
theorem dX2_figure_8 : decode cX2_figure 8 = .ok (.iadd, 1) := by decide +kernel
theorem dX2_figure_9 : decode cX2_figure 9 = .ok (.invokevirtual 62, 3) := by decide +kernel
theorem dX2_figure_12 : decode cX2_figure 12 = .ok (.bipush 48, 2) := by decide +kernel
theorem dX2_figure_14 : decode cX2_figure 14 = .ok (.isub, 1) := by decide +kernel
theorem dX2_figure_15 : decode cX2_figure 15 = .ok (.ireturn, 1) := by decide +kernel
theorem dX2_leadsFrom_0 : decode cX2_leadsFrom 0 = .ok (.iload_n 1, 1) := by decide +kernel
theorem dX2_leadsFrom_1 : decode cX2_leadsFrom 1 = .ok (.ifCond .lt 17, 3) := by decide +kernel
theorem dX2_leadsFrom_4 : decode cX2_leadsFrom 4 = .ok (.iload_n 1, 1) := by decide +kernel
theorem dX2_leadsFrom_5 : decode cX2_leadsFrom 5 = .ok (.aload_n 0, 1) := by decide +kernel
theorem dX2_leadsFrom_6 : decode cX2_leadsFrom 6 = .ok (.getfield 41, 3) := by decide +kernel
theorem dX2_leadsFrom_9 : decode cX2_leadsFrom 9 = .ok (.if_icmp .ge 9, 3) := by decide +kernel
theorem dX2_leadsFrom_12 : decode cX2_leadsFrom 12 = .ok (.iload_n 1, 1) := by decide +kernel
theorem dX2_leadsFrom_13 : decode cX2_leadsFrom 13 = .ok (.bipush 8, 2) := by decide +kernel
theorem dX2_leadsFrom_15 : decode cX2_leadsFrom 15 = .ok (.if_icmp .lt 5, 3) := by decide +kernel
theorem dX2_leadsFrom_18 : decode cX2_leadsFrom 18 = .ok (.iconst 0, 1) := by decide +kernel
theorem dX2_leadsFrom_19 : decode cX2_leadsFrom 19 = .ok (.ireturn, 1) := by decide +kernel
theorem dX2_leadsFrom_20 : decode cX2_leadsFrom 20 = .ok (.aload_n 0, 1) := by decide +kernel
theorem dX2_leadsFrom_21 : decode cX2_leadsFrom 21 = .ok (.getfield 28, 3) := by decide +kernel
theorem dX2_leadsFrom_24 : decode cX2_leadsFrom 24 = .ok (.iload_n 1, 1) := by decide +kernel
theorem dX2_leadsFrom_25 : decode cX2_leadsFrom 25 = .ok (.iaload, 1) := by decide +kernel
theorem dX2_leadsFrom_26 : decode cX2_leadsFrom 26 = .ok (.iload_n 2, 1) := by decide +kernel
theorem dX2_leadsFrom_27 : decode cX2_leadsFrom 27 = .ok (.if_icmp .eq 13, 3) := by decide +kernel
theorem dX2_leadsFrom_30 : decode cX2_leadsFrom 30 = .ok (.aload_n 0, 1) := by decide +kernel
theorem dX2_leadsFrom_31 : decode cX2_leadsFrom 31 = .ok (.getfield 31, 3) := by decide +kernel
theorem dX2_leadsFrom_34 : decode cX2_leadsFrom 34 = .ok (.iload_n 1, 1) := by decide +kernel
theorem dX2_leadsFrom_35 : decode cX2_leadsFrom 35 = .ok (.iaload, 1) := by decide +kernel
theorem dX2_leadsFrom_36 : decode cX2_leadsFrom 36 = .ok (.iload_n 2, 1) := by decide +kernel
theorem dX2_leadsFrom_37 : decode cX2_leadsFrom 37 = .ok (.if_icmp .ne 7, 3) := by decide +kernel
theorem dX2_leadsFrom_40 : decode cX2_leadsFrom 40 = .ok (.iconst 1, 1) := by decide +kernel
theorem dX2_leadsFrom_41 : decode cX2_leadsFrom 41 = .ok (.goto 4, 3) := by decide +kernel
theorem dX2_leadsFrom_44 : decode cX2_leadsFrom 44 = .ok (.iconst 0, 1) := by decide +kernel
theorem dX2_leadsFrom_45 : decode cX2_leadsFrom 45 = .ok (.ireturn, 1) := by decide +kernel
theorem dX2_across_0 : decode cX2_across 0 = .ok (.iload_n 1, 1) := by decide +kernel
theorem dX2_across_1 : decode cX2_across 1 = .ok (.bipush 7, 2) := by decide +kernel
theorem dX2_across_3 : decode cX2_across 3 = .ok (.iand, 1) := by decide +kernel
theorem dX2_across_4 : decode cX2_across 4 = .ok (.istore_n 3, 1) := by decide +kernel
theorem dX2_across_5 : decode cX2_across 5 = .ok (.aload_n 0, 1) := by decide +kernel
theorem dX2_across_6 : decode cX2_across 6 = .ok (.getfield 28, 3) := by decide +kernel
theorem dX2_across_9 : decode cX2_across 9 = .ok (.iload_n 3, 1) := by decide +kernel
theorem dX2_across_10 : decode cX2_across 10 = .ok (.iaload, 1) := by decide +kernel
theorem dX2_across_11 : decode cX2_across 11 = .ok (.iload_n 2, 1) := by decide +kernel
theorem dX2_across_12 : decode cX2_across 12 = .ok (.if_icmp .ne 12, 3) := by decide +kernel
theorem dX2_across_15 : decode cX2_across 15 = .ok (.aload_n 0, 1) := by decide +kernel
theorem dX2_across_16 : decode cX2_across 16 = .ok (.getfield 31, 3) := by decide +kernel
theorem dX2_across_19 : decode cX2_across 19 = .ok (.iload_n 3, 1) := by decide +kernel
theorem dX2_across_20 : decode cX2_across 20 = .ok (.iaload, 1) := by decide +kernel
theorem dX2_across_21 : decode cX2_across 21 = .ok (.goto 9, 3) := by decide +kernel
theorem dX2_across_24 : decode cX2_across 24 = .ok (.aload_n 0, 1) := by decide +kernel
theorem dX2_across_25 : decode cX2_across 25 = .ok (.getfield 28, 3) := by decide +kernel
theorem dX2_across_28 : decode cX2_across 28 = .ok (.iload_n 3, 1) := by decide +kernel
theorem dX2_across_29 : decode cX2_across 29 = .ok (.iaload, 1) := by decide +kernel
theorem dX2_across_30 : decode cX2_across 30 = .ok (.ireturn, 1) := by decide +kernel
theorem dX2_yardsOf_0 : decode cX2_yardsOf 0 = .ok (.aload_n 0, 1) := by decide +kernel
theorem dX2_yardsOf_1 : decode cX2_yardsOf 1 = .ok (.getfield 34, 3) := by decide +kernel
theorem dX2_yardsOf_4 : decode cX2_yardsOf 4 = .ok (.iload_n 1, 1) := by decide +kernel
theorem dX2_yardsOf_5 : decode cX2_yardsOf 5 = .ok (.bipush 7, 2) := by decide +kernel
theorem dX2_yardsOf_7 : decode cX2_yardsOf 7 = .ok (.iand, 1) := by decide +kernel
theorem dX2_yardsOf_8 : decode cX2_yardsOf 8 = .ok (.iaload, 1) := by decide +kernel
theorem dX2_yardsOf_9 : decode cX2_yardsOf 9 = .ok (.ireturn, 1) := by decide +kernel
theorem dX2_haveSameEnds_0 : decode cX2_haveSameEnds 0 = .ok (.aload_n 0, 1) := by decide +kernel
theorem dX2_haveSameEnds_1 : decode cX2_haveSameEnds 1 = .ok (.iload_n 1, 1) := by decide +kernel
theorem dX2_haveSameEnds_2 : decode cX2_haveSameEnds 2 = .ok (.aload_n 0, 1) := by decide +kernel
theorem dX2_haveSameEnds_3 : decode cX2_haveSameEnds 3 = .ok (.iload_n 2, 1) := by decide +kernel
theorem dX2_haveSameEnds_4 : decode cX2_haveSameEnds 4 = .ok (.iconst 0, 1) := by decide +kernel
theorem dX2_haveSameEnds_5 : decode cX2_haveSameEnds 5 = .ok (.invokevirtual 54, 3) := by decide +kernel
theorem dX2_haveSameEnds_8 : decode cX2_haveSameEnds 8 = .ok (.invokevirtual 69, 3) := by decide +kernel
theorem dX2_haveSameEnds_11 : decode cX2_haveSameEnds 11 = .ok (.ifCond .eq 21, 3) := by decide +kernel
theorem dX2_haveSameEnds_14 : decode cX2_haveSameEnds 14 = .ok (.aload_n 0, 1) := by decide +kernel
theorem dX2_haveSameEnds_15 : decode cX2_haveSameEnds 15 = .ok (.iload_n 1, 1) := by decide +kernel
theorem dX2_haveSameEnds_16 : decode cX2_haveSameEnds 16 = .ok (.aload_n 0, 1) := by decide +kernel
theorem dX2_haveSameEnds_17 : decode cX2_haveSameEnds 17 = .ok (.iload_n 2, 1) := by decide +kernel
theorem dX2_haveSameEnds_18 : decode cX2_haveSameEnds 18 = .ok (.iconst 1, 1) := by decide +kernel
theorem dX2_haveSameEnds_19 : decode cX2_haveSameEnds 19 = .ok (.invokevirtual 54, 3) := by decide +kernel
theorem dX2_haveSameEnds_22 : decode cX2_haveSameEnds 22 = .ok (.invokevirtual 69, 3) := by decide +kernel
theorem dX2_haveSameEnds_25 : decode cX2_haveSameEnds 25 = .ok (.ifCond .eq 7, 3) := by decide +kernel
theorem dX2_haveSameEnds_28 : decode cX2_haveSameEnds 28 = .ok (.iconst 1, 1) := by decide +kernel
theorem dX2_haveSameEnds_29 : decode cX2_haveSameEnds 29 = .ok (.goto 4, 3) := by decide +kernel
theorem dX2_haveSameEnds_32 : decode cX2_haveSameEnds 32 = .ok (.iconst 0, 1) := by decide +kernel
theorem dX2_haveSameEnds_33 : decode cX2_haveSameEnds 33 = .ok (.ireturn, 1) := by decide +kernel
theorem dX2_shorter_0 : decode cX2_shorter 0 = .ok (.iload_n 1, 1) := by decide +kernel
theorem dX2_shorter_1 : decode cX2_shorter 1 = .ok (.iload_n 2, 1) := by decide +kernel
theorem dX2_shorter_2 : decode cX2_shorter 2 = .ok (.invokestatic 73, 3) := by decide +kernel
theorem dX2_shorter_5 : decode cX2_shorter 5 = .ok (.istore_n 3, 1) := by decide +kernel
theorem dX2_shorter_6 : decode cX2_shorter 6 = .ok (.iload_n 1, 1) := by decide +kernel
theorem dX2_shorter_7 : decode cX2_shorter 7 = .ok (.iload_n 2, 1) := by decide +kernel
theorem dX2_shorter_8 : decode cX2_shorter 8 = .ok (.invokestatic 78, 3) := by decide +kernel
theorem dX2_shorter_11 : decode cX2_shorter 11 = .ok (.istore 4, 2) := by decide +kernel
theorem dX2_shorter_13 : decode cX2_shorter 13 = .ok (.aload_n 0, 1) := by decide +kernel
theorem dX2_shorter_14 : decode cX2_shorter 14 = .ok (.iload 4, 2) := by decide +kernel
theorem dX2_shorter_16 : decode cX2_shorter 16 = .ok (.invokevirtual 81, 3) := by decide +kernel
theorem dX2_shorter_19 : decode cX2_shorter 19 = .ok (.aload_n 0, 1) := by decide +kernel
theorem dX2_shorter_20 : decode cX2_shorter 20 = .ok (.iload_n 3, 1) := by decide +kernel
theorem dX2_shorter_21 : decode cX2_shorter 21 = .ok (.invokevirtual 81, 3) := by decide +kernel
theorem dX2_shorter_24 : decode cX2_shorter 24 = .ok (.if_icmp .ge 8, 3) := by decide +kernel
theorem dX2_shorter_27 : decode cX2_shorter 27 = .ok (.iload 4, 2) := by decide +kernel
theorem dX2_shorter_29 : decode cX2_shorter 29 = .ok (.goto 4, 3) := by decide +kernel
theorem dX2_shorter_32 : decode cX2_shorter 32 = .ok (.iload_n 3, 1) := by decide +kernel
theorem dX2_shorter_33 : decode cX2_shorter 33 = .ok (.ireturn, 1) := by decide +kernel
theorem dX2_isHeavier_0 : decode cX2_isHeavier 0 = .ok (.iload_n 1, 1) := by decide +kernel
theorem dX2_isHeavier_1 : decode cX2_isHeavier 1 = .ok (.ifCond .ne 26, 3) := by decide +kernel
theorem dX2_isHeavier_4 : decode cX2_isHeavier 4 = .ok (.aload_n 0, 1) := by decide +kernel
theorem dX2_isHeavier_5 : decode cX2_isHeavier 5 = .ok (.getfield 18, 3) := by decide +kernel
theorem dX2_isHeavier_8 : decode cX2_isHeavier 8 = .ok (.iconst 0, 1) := by decide +kernel
theorem dX2_isHeavier_9 : decode cX2_isHeavier 9 = .ok (.iaload, 1) := by decide +kernel
theorem dX2_isHeavier_10 : decode cX2_isHeavier 10 = .ok (.aload_n 0, 1) := by decide +kernel
theorem dX2_isHeavier_11 : decode cX2_isHeavier 11 = .ok (.getfield 18, 3) := by decide +kernel
theorem dX2_isHeavier_14 : decode cX2_isHeavier 14 = .ok (.iconst 1, 1) := by decide +kernel
theorem dX2_isHeavier_15 : decode cX2_isHeavier 15 = .ok (.iaload, 1) := by decide +kernel
theorem dX2_isHeavier_16 : decode cX2_isHeavier 16 = .ok (.if_icmp .le 7, 3) := by decide +kernel
theorem dX2_isHeavier_19 : decode cX2_isHeavier 19 = .ok (.iconst 1, 1) := by decide +kernel
theorem dX2_isHeavier_20 : decode cX2_isHeavier 20 = .ok (.goto 27, 3) := by decide +kernel
theorem dX2_isHeavier_23 : decode cX2_isHeavier 23 = .ok (.iconst 0, 1) := by decide +kernel
theorem dX2_isHeavier_24 : decode cX2_isHeavier 24 = .ok (.goto 23, 3) := by decide +kernel
theorem dX2_isHeavier_27 : decode cX2_isHeavier 27 = .ok (.aload_n 0, 1) := by decide +kernel
theorem dX2_isHeavier_28 : decode cX2_isHeavier 28 = .ok (.getfield 18, 3) := by decide +kernel
theorem dX2_isHeavier_31 : decode cX2_isHeavier 31 = .ok (.iconst 1, 1) := by decide +kernel
theorem dX2_isHeavier_32 : decode cX2_isHeavier 32 = .ok (.iaload, 1) := by decide +kernel
theorem dX2_isHeavier_33 : decode cX2_isHeavier 33 = .ok (.aload_n 0, 1) := by decide +kernel
theorem dX2_isHeavier_34 : decode cX2_isHeavier 34 = .ok (.getfield 18, 3) := by decide +kernel
theorem dX2_isHeavier_37 : decode cX2_isHeavier 37 = .ok (.iconst 0, 1) := by decide +kernel
theorem dX2_isHeavier_38 : decode cX2_isHeavier 38 = .ok (.iaload, 1) := by decide +kernel
theorem dX2_isHeavier_39 : decode cX2_isHeavier 39 = .ok (.if_icmp .le 7, 3) := by decide +kernel
theorem dX2_isHeavier_42 : decode cX2_isHeavier 42 = .ok (.iconst 1, 1) := by decide +kernel
theorem dX2_isHeavier_43 : decode cX2_isHeavier 43 = .ok (.goto 4, 3) := by decide +kernel
theorem dX2_isHeavier_46 : decode cX2_isHeavier 46 = .ok (.iconst 0, 1) := by decide +kernel
theorem dX2_isHeavier_47 : decode cX2_isHeavier 47 = .ok (.ireturn, 1) := by decide +kernel
theorem dX2_allYards_0 : decode cX2_allYards 0 = .ok (.iconst 0, 1) := by decide +kernel
theorem dX2_allYards_1 : decode cX2_allYards 1 = .ok (.istore_n 1, 1) := by decide +kernel
theorem dX2_allYards_2 : decode cX2_allYards 2 = .ok (.iconst 0, 1) := by decide +kernel
theorem dX2_allYards_3 : decode cX2_allYards 3 = .ok (.istore_n 2, 1) := by decide +kernel
theorem dX2_allYards_4 : decode cX2_allYards 4 = .ok (.iload_n 2, 1) := by decide +kernel
theorem dX2_allYards_5 : decode cX2_allYards 5 = .ok (.aload_n 0, 1) := by decide +kernel
theorem dX2_allYards_6 : decode cX2_allYards 6 = .ok (.getfield 41, 3) := by decide +kernel
theorem dX2_allYards_9 : decode cX2_allYards 9 = .ok (.if_icmp .ge 17, 3) := by decide +kernel
theorem dX2_allYards_12 : decode cX2_allYards 12 = .ok (.iload_n 1, 1) := by decide +kernel
theorem dX2_allYards_13 : decode cX2_allYards 13 = .ok (.aload_n 0, 1) := by decide +kernel
theorem dX2_allYards_14 : decode cX2_allYards 14 = .ok (.iload_n 2, 1) := by decide +kernel
theorem dX2_allYards_15 : decode cX2_allYards 15 = .ok (.invokevirtual 81, 3) := by decide +kernel
theorem dX2_allYards_18 : decode cX2_allYards 18 = .ok (.iadd, 1) := by decide +kernel
theorem dX2_allYards_19 : decode cX2_allYards 19 = .ok (.istore_n 1, 1) := by decide +kernel
theorem dX2_allYards_20 : decode cX2_allYards 20 = .ok (.iinc 2 1, 3) := by decide +kernel
theorem dX2_allYards_23 : decode cX2_allYards 23 = .ok (.goto (-19), 3) := by decide +kernel
theorem dX2_allYards_26 : decode cX2_allYards 26 = .ok (.iload_n 1, 1) := by decide +kernel
theorem dX2_allYards_27 : decode cX2_allYards 27 = .ok (.ireturn, 1) := by decide +kernel
theorem dX2_worthBeside_0 : decode cX2_worthBeside 0 = .ok (.iconst 0, 1) := by decide +kernel
theorem dX2_worthBeside_1 : decode cX2_worthBeside 1 = .ok (.istore_n 2, 1) := by decide +kernel
theorem dX2_worthBeside_2 : decode cX2_worthBeside 2 = .ok (.iconst 0, 1) := by decide +kernel
theorem dX2_worthBeside_3 : decode cX2_worthBeside 3 = .ok (.istore_n 3, 1) := by decide +kernel
theorem dX2_worthBeside_4 : decode cX2_worthBeside 4 = .ok (.iload_n 3, 1) := by decide +kernel
theorem dX2_worthBeside_5 : decode cX2_worthBeside 5 = .ok (.bipush 8, 2) := by decide +kernel
theorem dX2_worthBeside_7 : decode cX2_worthBeside 7 = .ok (.if_icmp .ge 18, 3) := by decide +kernel
theorem dX2_worthBeside_10 : decode cX2_worthBeside 10 = .ok (.iload_n 2, 1) := by decide +kernel
theorem dX2_worthBeside_11 : decode cX2_worthBeside 11 = .ok (.aload_n 0, 1) := by decide +kernel
theorem dX2_worthBeside_12 : decode cX2_worthBeside 12 = .ok (.iload_n 3, 1) := by decide +kernel
theorem dX2_worthBeside_13 : decode cX2_worthBeside 13 = .ok (.iload_n 1, 1) := by decide +kernel
theorem dX2_worthBeside_14 : decode cX2_worthBeside 14 = .ok (.invokevirtual 84, 3) := by decide +kernel
theorem dX2_worthBeside_17 : decode cX2_worthBeside 17 = .ok (.iadd, 1) := by decide +kernel
theorem dX2_worthBeside_18 : decode cX2_worthBeside 18 = .ok (.istore_n 2, 1) := by decide +kernel
theorem dX2_worthBeside_19 : decode cX2_worthBeside 19 = .ok (.iinc 3 1, 3) := by decide +kernel
theorem dX2_worthBeside_22 : decode cX2_worthBeside 22 = .ok (.goto (-18), 3) := by decide +kernel
theorem dX2_worthBeside_25 : decode cX2_worthBeside 25 = .ok (.iload_n 2, 1) := by decide +kernel
theorem dX2_worthBeside_26 : decode cX2_worthBeside 26 = .ok (.ireturn, 1) := by decide +kernel
theorem dX2_worthAt_0 : decode cX2_worthAt 0 = .ok (.iload_n 1, 1) := by decide +kernel
theorem dX2_worthAt_1 : decode cX2_worthAt 1 = .ok (.bipush 8, 2) := by decide +kernel
theorem dX2_worthAt_3 : decode cX2_worthAt 3 = .ok (.invokestatic 87, 3) := by decide +kernel
theorem dX2_worthAt_6 : decode cX2_worthAt 6 = .ok (.ifCond .eq 20, 3) := by decide +kernel
theorem dX2_worthAt_9 : decode cX2_worthAt 9 = .ok (.iload_n 2, 1) := by decide +kernel
theorem dX2_worthAt_10 : decode cX2_worthAt 10 = .ok (.iload_n 1, 1) := by decide +kernel
theorem dX2_worthAt_11 : decode cX2_worthAt 11 = .ok (.ishr, 1) := by decide +kernel
theorem dX2_worthAt_12 : decode cX2_worthAt 12 = .ok (.iconst 1, 1) := by decide +kernel
theorem dX2_worthAt_13 : decode cX2_worthAt 13 = .ok (.iand, 1) := by decide +kernel
theorem dX2_worthAt_14 : decode cX2_worthAt 14 = .ok (.ifCond .ne 12, 3) := by decide +kernel
theorem dX2_worthAt_17 : decode cX2_worthAt 17 = .ok (.aload_n 0, 1) := by decide +kernel
theorem dX2_worthAt_18 : decode cX2_worthAt 18 = .ok (.getfield 22, 3) := by decide +kernel
theorem dX2_worthAt_21 : decode cX2_worthAt 21 = .ok (.iload_n 1, 1) := by decide +kernel
theorem dX2_worthAt_22 : decode cX2_worthAt 22 = .ok (.iaload, 1) := by decide +kernel
theorem dX2_worthAt_23 : decode cX2_worthAt 23 = .ok (.goto 4, 3) := by decide +kernel
theorem dX2_worthAt_26 : decode cX2_worthAt 26 = .ok (.iconst 0, 1) := by decide +kernel
theorem dX2_worthAt_27 : decode cX2_worthAt 27 = .ok (.ireturn, 1) := by decide +kernel
theorem dX2_measureFrom_0 : decode cX2_measureFrom 0 = .ok (.aload_n 0, 1) := by decide +kernel
theorem dX2_measureFrom_1 : decode cX2_measureFrom 1 = .ok (.getfield 25, 3) := by decide +kernel
theorem dX2_measureFrom_4 : decode cX2_measureFrom 4 = .ok (.iconst (-1), 1) := by decide +kernel
theorem dX2_measureFrom_5 : decode cX2_measureFrom 5 = .ok (.invokestatic 90, 3) := by decide +kernel
theorem dX2_measureFrom_8 : decode cX2_measureFrom 8 = .ok (.iload_n 1, 1) := by decide +kernel
theorem dX2_measureFrom_9 : decode cX2_measureFrom 9 = .ok (.bipush 8, 2) := by decide +kernel
theorem dX2_measureFrom_11 : decode cX2_measureFrom 11 = .ok (.invokestatic 87, 3) := by decide +kernel
theorem dX2_measureFrom_14 : decode cX2_measureFrom 14 = .ok (.ifCond .ne 4, 3) := by decide +kernel
theorem dX2_measureFrom_17 : decode cX2_measureFrom 17 = .ok (.return_, 1) := by decide +kernel
theorem dX2_measureFrom_18 : decode cX2_measureFrom 18 = .ok (.aload_n 0, 1) := by decide +kernel
theorem dX2_measureFrom_19 : decode cX2_measureFrom 19 = .ok (.getfield 25, 3) := by decide +kernel
theorem dX2_measureFrom_22 : decode cX2_measureFrom 22 = .ok (.iload_n 1, 1) := by decide +kernel
theorem dX2_measureFrom_23 : decode cX2_measureFrom 23 = .ok (.iconst 0, 1) := by decide +kernel
theorem dX2_measureFrom_24 : decode cX2_measureFrom 24 = .ok (.iastore, 1) := by decide +kernel
theorem dX2_measureFrom_25 : decode cX2_measureFrom 25 = .ok (.iconst 1, 1) := by decide +kernel
theorem dX2_measureFrom_26 : decode cX2_measureFrom 26 = .ok (.istore_n 2, 1) := by decide +kernel
theorem dX2_measureFrom_27 : decode cX2_measureFrom 27 = .ok (.iload_n 2, 1) := by decide +kernel
theorem dX2_measureFrom_28 : decode cX2_measureFrom 28 = .ok (.bipush 8, 2) := by decide +kernel
theorem dX2_measureFrom_30 : decode cX2_measureFrom 30 = .ok (.if_icmp .ge 65, 3) := by decide +kernel
theorem dX2_measureFrom_33 : decode cX2_measureFrom 33 = .ok (.iconst 0, 1) := by decide +kernel
theorem dX2_measureFrom_34 : decode cX2_measureFrom 34 = .ok (.istore_n 3, 1) := by decide +kernel
theorem dX2_measureFrom_35 : decode cX2_measureFrom 35 = .ok (.iload_n 3, 1) := by decide +kernel
theorem dX2_measureFrom_36 : decode cX2_measureFrom 36 = .ok (.aload_n 0, 1) := by decide +kernel
theorem dX2_measureFrom_37 : decode cX2_measureFrom 37 = .ok (.getfield 41, 3) := by decide +kernel
theorem dX2_measureFrom_40 : decode cX2_measureFrom 40 = .ok (.if_icmp .ge 49, 3) := by decide +kernel
theorem dX2_measureFrom_43 : decode cX2_measureFrom 43 = .ok (.iload_n 3, 1) := by decide +kernel
theorem dX2_measureFrom_44 : decode cX2_measureFrom 44 = .ok (.bipush 8, 2) := by decide +kernel
theorem dX2_measureFrom_46 : decode cX2_measureFrom 46 = .ok (.if_icmp .ge 43, 3) := by decide +kernel
theorem dX2_measureFrom_49 : decode cX2_measureFrom 49 = .ok (.aload_n 0, 1) := by decide +kernel
theorem dX2_measureFrom_50 : decode cX2_measureFrom 50 = .ok (.aload_n 0, 1) := by decide +kernel
theorem dX2_measureFrom_51 : decode cX2_measureFrom 51 = .ok (.getfield 28, 3) := by decide +kernel
theorem dX2_measureFrom_54 : decode cX2_measureFrom 54 = .ok (.iload_n 3, 1) := by decide +kernel
theorem dX2_measureFrom_55 : decode cX2_measureFrom 55 = .ok (.iaload, 1) := by decide +kernel
theorem dX2_measureFrom_56 : decode cX2_measureFrom 56 = .ok (.aload_n 0, 1) := by decide +kernel
theorem dX2_measureFrom_57 : decode cX2_measureFrom 57 = .ok (.getfield 31, 3) := by decide +kernel
theorem dX2_measureFrom_60 : decode cX2_measureFrom 60 = .ok (.iload_n 3, 1) := by decide +kernel
theorem dX2_measureFrom_61 : decode cX2_measureFrom 61 = .ok (.iaload, 1) := by decide +kernel
theorem dX2_measureFrom_62 : decode cX2_measureFrom 62 = .ok (.iload_n 2, 1) := by decide +kernel
theorem dX2_measureFrom_63 : decode cX2_measureFrom 63 = .ok (.invokevirtual 96, 3) := by decide +kernel
theorem dX2_measureFrom_66 : decode cX2_measureFrom 66 = .ok (.aload_n 0, 1) := by decide +kernel
theorem dX2_measureFrom_67 : decode cX2_measureFrom 67 = .ok (.aload_n 0, 1) := by decide +kernel
theorem dX2_measureFrom_68 : decode cX2_measureFrom 68 = .ok (.getfield 31, 3) := by decide +kernel
theorem dX2_measureFrom_71 : decode cX2_measureFrom 71 = .ok (.iload_n 3, 1) := by decide +kernel
theorem dX2_measureFrom_72 : decode cX2_measureFrom 72 = .ok (.iaload, 1) := by decide +kernel
theorem dX2_measureFrom_73 : decode cX2_measureFrom 73 = .ok (.aload_n 0, 1) := by decide +kernel
theorem dX2_measureFrom_74 : decode cX2_measureFrom 74 = .ok (.getfield 28, 3) := by decide +kernel
theorem dX2_measureFrom_77 : decode cX2_measureFrom 77 = .ok (.iload_n 3, 1) := by decide +kernel
theorem dX2_measureFrom_78 : decode cX2_measureFrom 78 = .ok (.iaload, 1) := by decide +kernel
theorem dX2_measureFrom_79 : decode cX2_measureFrom 79 = .ok (.iload_n 2, 1) := by decide +kernel
theorem dX2_measureFrom_80 : decode cX2_measureFrom 80 = .ok (.invokevirtual 96, 3) := by decide +kernel
theorem dX2_measureFrom_83 : decode cX2_measureFrom 83 = .ok (.iinc 3 1, 3) := by decide +kernel
theorem dX2_measureFrom_86 : decode cX2_measureFrom 86 = .ok (.goto (-51), 3) := by decide +kernel
theorem dX2_measureFrom_89 : decode cX2_measureFrom 89 = .ok (.iinc 2 1, 3) := by decide +kernel
theorem dX2_measureFrom_92 : decode cX2_measureFrom 92 = .ok (.goto (-65), 3) := by decide +kernel
theorem dX2_measureFrom_95 : decode cX2_measureFrom 95 = .ok (.return_, 1) := by decide +kernel
theorem dX2_measureAcross_0 : decode cX2_measureAcross 0 = .ok (.iload_n 1, 1) := by decide +kernel
theorem dX2_measureAcross_1 : decode cX2_measureAcross 1 = .ok (.bipush 8, 2) := by decide +kernel
theorem dX2_measureAcross_3 : decode cX2_measureAcross 3 = .ok (.invokestatic 87, 3) := by decide +kernel
theorem dX2_measureAcross_6 : decode cX2_measureAcross 6 = .ok (.ifCond .eq 41, 3) := by decide +kernel
theorem dX2_measureAcross_9 : decode cX2_measureAcross 9 = .ok (.iload_n 2, 1) := by decide +kernel
theorem dX2_measureAcross_10 : decode cX2_measureAcross 10 = .ok (.bipush 8, 2) := by decide +kernel
theorem dX2_measureAcross_12 : decode cX2_measureAcross 12 = .ok (.invokestatic 87, 3) := by decide +kernel
theorem dX2_measureAcross_15 : decode cX2_measureAcross 15 = .ok (.ifCond .eq 32, 3) := by decide +kernel
theorem dX2_measureAcross_18 : decode cX2_measureAcross 18 = .ok (.aload_n 0, 1) := by decide +kernel
theorem dX2_measureAcross_19 : decode cX2_measureAcross 19 = .ok (.getfield 25, 3) := by decide +kernel
theorem dX2_measureAcross_22 : decode cX2_measureAcross 22 = .ok (.iload_n 1, 1) := by decide +kernel
theorem dX2_measureAcross_23 : decode cX2_measureAcross 23 = .ok (.iaload, 1) := by decide +kernel
theorem dX2_measureAcross_24 : decode cX2_measureAcross 24 = .ok (.iload_n 3, 1) := by decide +kernel
theorem dX2_measureAcross_25 : decode cX2_measureAcross 25 = .ok (.iconst 1, 1) := by decide +kernel
theorem dX2_measureAcross_26 : decode cX2_measureAcross 26 = .ok (.isub, 1) := by decide +kernel
theorem dX2_measureAcross_27 : decode cX2_measureAcross 27 = .ok (.if_icmp .ne 20, 3) := by decide +kernel
theorem dX2_measureAcross_30 : decode cX2_measureAcross 30 = .ok (.aload_n 0, 1) := by decide +kernel
theorem dX2_measureAcross_31 : decode cX2_measureAcross 31 = .ok (.getfield 25, 3) := by decide +kernel
theorem dX2_measureAcross_34 : decode cX2_measureAcross 34 = .ok (.iload_n 2, 1) := by decide +kernel
theorem dX2_measureAcross_35 : decode cX2_measureAcross 35 = .ok (.iaload, 1) := by decide +kernel
theorem dX2_measureAcross_36 : decode cX2_measureAcross 36 = .ok (.iconst (-1), 1) := by decide +kernel
theorem dX2_measureAcross_37 : decode cX2_measureAcross 37 = .ok (.if_icmp .ne 10, 3) := by decide +kernel
theorem dX2_measureAcross_40 : decode cX2_measureAcross 40 = .ok (.aload_n 0, 1) := by decide +kernel
theorem dX2_measureAcross_41 : decode cX2_measureAcross 41 = .ok (.getfield 25, 3) := by decide +kernel
theorem dX2_measureAcross_44 : decode cX2_measureAcross 44 = .ok (.iload_n 2, 1) := by decide +kernel
theorem dX2_measureAcross_45 : decode cX2_measureAcross 45 = .ok (.iload_n 3, 1) := by decide +kernel
theorem dX2_measureAcross_46 : decode cX2_measureAcross 46 = .ok (.iastore, 1) := by decide +kernel
theorem dX2_measureAcross_47 : decode cX2_measureAcross 47 = .ok (.return_, 1) := by decide +kernel
theorem dX3_init_0 : decode cX3_init 0 = .ok (.aload_n 0, 1) := by decide +kernel
theorem dX3_init_1 : decode cX3_init 1 = .ok (.invokespecial 3, 3) := by decide +kernel
theorem dX3_init_4 : decode cX3_init 4 = .ok (.aload_n 0, 1) := by decide +kernel
theorem dX3_init_5 : decode cX3_init 5 = .ok (.sipush 1001, 3) := by decide +kernel
theorem dX3_init_8 : decode cX3_init 8 = .ok (.newarray .long, 2) := by decide +kernel
theorem dX3_init_10 : decode cX3_init 10 = .ok (.putfield 11, 3) := by decide +kernel
theorem dX3_init_13 : decode cX3_init 13 = .ok (.aload_n 0, 1) := by decide +kernel
theorem dX3_init_14 : decode cX3_init 14 = .ok (.sipush 2048, 3) := by decide +kernel
theorem dX3_init_17 : decode cX3_init 17 = .ok (.newarray .int, 2) := by decide +kernel
theorem dX3_init_19 : decode cX3_init 19 = .ok (.putfield 15, 3) := by decide +kernel
theorem dX3_init_22 : decode cX3_init 22 = .ok (.aload_n 0, 1) := by decide +kernel
theorem dX3_init_23 : decode cX3_init 23 = .ok (.iconst 0, 1) := by decide +kernel
theorem dX3_init_24 : decode cX3_init 24 = .ok (.putfield 19, 3) := by decide +kernel
theorem dX3_init_27 : decode cX3_init 27 = .ok (.aload_n 0, 1) := by decide +kernel
theorem dX3_init_28 : decode cX3_init 28 = .ok (.aload_n 1, 1) := by decide +kernel
theorem dX3_init_29 : decode cX3_init 29 = .ok (.putfield 23, 3) := by decide +kernel
theorem dX3_init_32 : decode cX3_init 32 = .ok (.aload_n 0, 1) := by decide +kernel
theorem dX3_init_33 : decode cX3_init 33 = .ok (.new 27, 3) := by decide +kernel
theorem dX3_init_36 : decode cX3_init 36 = .ok (.dup, 1) := by decide +kernel
theorem dX3_init_37 : decode cX3_init 37 = .ok (.aload_n 1, 1) := by decide +kernel
theorem dX3_init_38 : decode cX3_init 38 = .ok (.invokespecial 29, 3) := by decide +kernel
theorem dX3_init_41 : decode cX3_init 41 = .ok (.putfield 32, 3) := by decide +kernel
theorem dX3_init_44 : decode cX3_init 44 = .ok (.return_, 1) := by decide +kernel
theorem dX3_fewest_0 : decode cX3_fewest 0 = .ok (.aload_n 1, 1) := by decide +kernel
theorem dX3_fewest_1 : decode cX3_fewest 1 = .ok (.iload_n 2, 1) := by decide +kernel
theorem dX3_fewest_2 : decode cX3_fewest 2 = .ok (.iload_n 3, 1) := by decide +kernel
theorem dX3_fewest_3 : decode cX3_fewest 3 = .ok (.invokestatic 36, 3) := by decide +kernel
theorem dX3_fewest_6 : decode cX3_fewest 6 = .ok (.ifCond .eq 5, 3) := by decide +kernel
theorem dX3_fewest_9 : decode cX3_fewest 9 = .ok (.iconst 0, 1) := by decide +kernel
theorem dX3_fewest_10 : decode cX3_fewest 10 = .ok (.ireturn, 1) := by decide +kernel
theorem dX3_fewest_11 : decode cX3_fewest 11 = .ok (.aload_n 0, 1) := by decide +kernel
theorem dX3_fewest_12 : decode cX3_fewest 12 = .ok (.getfield 15, 3) := by decide +kernel
theorem dX3_fewest_15 : decode cX3_fewest 15 = .ok (.iconst 0, 1) := by decide +kernel
theorem dX3_fewest_16 : decode cX3_fewest 16 = .ok (.invokestatic 40, 3) := by decide +kernel
theorem dX3_fewest_19 : decode cX3_fewest 19 = .ok (.aload_n 0, 1) := by decide +kernel
theorem dX3_fewest_20 : decode cX3_fewest 20 = .ok (.iconst 0, 1) := by decide +kernel
theorem dX3_fewest_21 : decode cX3_fewest 21 = .ok (.putfield 19, 3) := by decide +kernel
theorem dX3_fewest_24 : decode cX3_fewest 24 = .ok (.aload_n 0, 1) := by decide +kernel
theorem dX3_fewest_25 : decode cX3_fewest 25 = .ok (.aload_n 1, 1) := by decide +kernel
theorem dX3_fewest_26 : decode cX3_fewest 26 = .ok (.invokevirtual 46, 3) := by decide +kernel
theorem dX3_fewest_29 : decode cX3_fewest 29 = .ok (.invokevirtual 50, 3) := by decide +kernel
theorem dX3_fewest_32 : decode cX3_fewest 32 = .ok (.iconst 0, 1) := by decide +kernel
theorem dX3_fewest_33 : decode cX3_fewest 33 = .ok (.istore 4, 2) := by decide +kernel
theorem dX3_fewest_35 : decode cX3_fewest 35 = .ok (.iconst 1, 1) := by decide +kernel
theorem dX3_fewest_36 : decode cX3_fewest 36 = .ok (.istore 5, 2) := by decide +kernel
theorem dX3_fewest_38 : decode cX3_fewest 38 = .ok (.iload 5, 2) := by decide +kernel
theorem dX3_fewest_40 : decode cX3_fewest 40 = .ok (.sipush 1001, 3) := by decide +kernel
theorem dX3_fewest_43 : decode cX3_fewest 43 = .ok (.if_icmp .gt 87, 3) := by decide +kernel
theorem dX3_fewest_46 : decode cX3_fewest 46 = .ok (.aload_n 0, 1) := by decide +kernel
theorem dX3_fewest_47 : decode cX3_fewest 47 = .ok (.getfield 19, 3) := by decide +kernel
theorem dX3_fewest_50 : decode cX3_fewest 50 = .ok (.istore 6, 2) := by decide +kernel
theorem dX3_fewest_52 : decode cX3_fewest 52 = .ok (.iload 4, 2) := by decide +kernel
theorem dX3_fewest_54 : decode cX3_fewest 54 = .ok (.istore 7, 2) := by decide +kernel
theorem dX3_fewest_56 : decode cX3_fewest 56 = .ok (.iload 7, 2) := by decide +kernel
theorem dX3_fewest_58 : decode cX3_fewest 58 = .ok (.iload 6, 2) := by decide +kernel
theorem dX3_fewest_60 : decode cX3_fewest 60 = .ok (.if_icmp .ge 36, 3) := by decide +kernel
theorem dX3_fewest_63 : decode cX3_fewest 63 = .ok (.iload 7, 2) := by decide +kernel
theorem dX3_fewest_65 : decode cX3_fewest 65 = .ok (.sipush 1000, 3) := by decide +kernel
theorem dX3_fewest_68 : decode cX3_fewest 68 = .ok (.if_icmp .gt 28, 3) := by decide +kernel
theorem dX3_fewest_71 : decode cX3_fewest 71 = .ok (.aload_n 0, 1) := by decide +kernel
theorem dX3_fewest_72 : decode cX3_fewest 72 = .ok (.aload_n 0, 1) := by decide +kernel
theorem dX3_fewest_73 : decode cX3_fewest 73 = .ok (.getfield 11, 3) := by decide +kernel
theorem dX3_fewest_76 : decode cX3_fewest 76 = .ok (.iload 7, 2) := by decide +kernel
theorem dX3_fewest_78 : decode cX3_fewest 78 = .ok (.laload, 1) := by decide +kernel
theorem dX3_fewest_79 : decode cX3_fewest 79 = .ok (.iload_n 2, 1) := by decide +kernel
theorem dX3_fewest_80 : decode cX3_fewest 80 = .ok (.iload_n 3, 1) := by decide +kernel
theorem dX3_fewest_81 : decode cX3_fewest 81 = .ok (.invokevirtual 54, 3) := by decide +kernel
theorem dX3_fewest_84 : decode cX3_fewest 84 = .ok (.ifCond .eq 6, 3) := by decide +kernel
theorem dX3_fewest_87 : decode cX3_fewest 87 = .ok (.iload 5, 2) := by decide +kernel
theorem dX3_fewest_89 : decode cX3_fewest 89 = .ok (.ireturn, 1) := by decide +kernel
theorem dX3_fewest_90 : decode cX3_fewest 90 = .ok (.iinc 7 1, 3) := by decide +kernel
theorem dX3_fewest_93 : decode cX3_fewest 93 = .ok (.goto (-37), 3) := by decide +kernel
theorem dX3_fewest_96 : decode cX3_fewest 96 = .ok (.aload_n 0, 1) := by decide +kernel
theorem dX3_fewest_97 : decode cX3_fewest 97 = .ok (.getfield 19, 3) := by decide +kernel
theorem dX3_fewest_100 : decode cX3_fewest 100 = .ok (.sipush 1000, 3) := by decide +kernel
theorem dX3_fewest_103 : decode cX3_fewest 103 = .ok (.if_icmp .le 6, 3) := by decide +kernel
theorem dX3_fewest_106 : decode cX3_fewest 106 = .ok (.bipush (-4), 2) := by decide +kernel
theorem dX3_fewest_108 : decode cX3_fewest 108 = .ok (.ireturn, 1) := by decide +kernel
theorem dX3_fewest_109 : decode cX3_fewest 109 = .ok (.aload_n 0, 1) := by decide +kernel
theorem dX3_fewest_110 : decode cX3_fewest 110 = .ok (.getfield 19, 3) := by decide +kernel
theorem dX3_fewest_113 : decode cX3_fewest 113 = .ok (.iload 6, 2) := by decide +kernel
theorem dX3_fewest_115 : decode cX3_fewest 115 = .ok (.if_icmp .ne 5, 3) := by decide +kernel
theorem dX3_fewest_118 : decode cX3_fewest 118 = .ok (.iconst (-1), 1) := by decide +kernel
theorem dX3_fewest_119 : decode cX3_fewest 119 = .ok (.ireturn, 1) := by decide +kernel
theorem dX3_fewest_120 : decode cX3_fewest 120 = .ok (.iload 6, 2) := by decide +kernel
theorem dX3_fewest_122 : decode cX3_fewest 122 = .ok (.istore 4, 2) := by decide +kernel
theorem dX3_fewest_124 : decode cX3_fewest 124 = .ok (.iinc 5 1, 3) := by decide +kernel
theorem dX3_fewest_127 : decode cX3_fewest 127 = .ok (.goto (-89), 3) := by decide +kernel
theorem dX3_fewest_130 : decode cX3_fewest 130 = .ok (.iconst (-1), 1) := by decide +kernel
theorem dX3_fewest_131 : decode cX3_fewest 131 = .ok (.ireturn, 1) := by decide +kernel
theorem dX3_stand_0 : decode cX3_stand 0 = .ok (.aload_n 0, 1) := by decide +kernel
theorem dX3_stand_1 : decode cX3_stand 1 = .ok (.getfield 58, 3) := by decide +kernel
theorem dX3_stand_4 : decode cX3_stand 4 = .ok (.iconst 0, 1) := by decide +kernel
theorem dX3_stand_5 : decode cX3_stand 5 = .ok (.iaload, 1) := by decide +kernel
theorem dX3_stand_6 : decode cX3_stand 6 = .ok (.iload_n 1, 1) := by decide +kernel
theorem dX3_stand_7 : decode cX3_stand 7 = .ok (.if_icmp .ne 17, 3) := by decide +kernel
theorem dX3_stand_10 : decode cX3_stand 10 = .ok (.aload_n 0, 1) := by decide +kernel
theorem dX3_stand_11 : decode cX3_stand 11 = .ok (.getfield 58, 3) := by decide +kernel
theorem dX3_stand_14 : decode cX3_stand 14 = .ok (.iconst 1, 1) := by decide +kernel
theorem dX3_stand_15 : decode cX3_stand 15 = .ok (.iaload, 1) := by decide +kernel
theorem dX3_stand_16 : decode cX3_stand 16 = .ok (.iload_n 2, 1) := by decide +kernel
theorem dX3_stand_17 : decode cX3_stand 17 = .ok (.if_icmp .ne 7, 3) := by decide +kernel
theorem dX3_stand_20 : decode cX3_stand 20 = .ok (.iconst 1, 1) := by decide +kernel
theorem dX3_stand_21 : decode cX3_stand 21 = .ok (.goto 4, 3) := by decide +kernel
theorem dX3_stand_24 : decode cX3_stand 24 = .ok (.iconst 0, 1) := by decide +kernel
theorem dX3_stand_25 : decode cX3_stand 25 = .ok (.ireturn, 1) := by decide +kernel
theorem dX3_leadsTo_0 : decode cX3_leadsTo 0 = .ok (.aload_n 0, 1) := by decide +kernel
theorem dX3_leadsTo_1 : decode cX3_leadsTo 1 = .ok (.getfield 32, 3) := by decide +kernel
theorem dX3_leadsTo_4 : decode cX3_leadsTo 4 = .ok (.lload_n 1, 1) := by decide +kernel
theorem dX3_leadsTo_5 : decode cX3_leadsTo 5 = .ok (.invokevirtual 61, 3) := by decide +kernel
theorem dX3_leadsTo_8 : decode cX3_leadsTo 8 = .ok (.iconst 0, 1) := by decide +kernel
theorem dX3_leadsTo_9 : decode cX3_leadsTo 9 = .ok (.istore 5, 2) := by decide +kernel
theorem dX3_leadsTo_11 : decode cX3_leadsTo 11 = .ok (.iload 5, 2) := by decide +kernel
theorem dX3_leadsTo_13 : decode cX3_leadsTo 13 = .ok (.iconst 2, 1) := by decide +kernel
theorem dX3_leadsTo_14 : decode cX3_leadsTo 14 = .ok (.aload_n 0, 1) := by decide +kernel
theorem dX3_leadsTo_15 : decode cX3_leadsTo 15 = .ok (.getfield 23, 3) := by decide +kernel
theorem dX3_leadsTo_18 : decode cX3_leadsTo 18 = .ok (.getfield 64, 3) := by decide +kernel
theorem dX3_leadsTo_21 : decode cX3_leadsTo 21 = .ok (.imul, 1) := by decide +kernel
theorem dX3_leadsTo_22 : decode cX3_leadsTo 22 = .ok (.if_icmp .ge 103, 3) := by decide +kernel
theorem dX3_leadsTo_25 : decode cX3_leadsTo 25 = .ok (.iload 5, 2) := by decide +kernel
theorem dX3_leadsTo_27 : decode cX3_leadsTo 27 = .ok (.iconst 1, 1) := by decide +kernel
theorem dX3_leadsTo_28 : decode cX3_leadsTo 28 = .ok (.iand, 1) := by decide +kernel
theorem dX3_leadsTo_29 : decode cX3_leadsTo 29 = .ok (.istore 6, 2) := by decide +kernel
theorem dX3_leadsTo_31 : decode cX3_leadsTo 31 = .ok (.iload 5, 2) := by decide +kernel
theorem dX3_leadsTo_33 : decode cX3_leadsTo 33 = .ok (.iconst 1, 1) := by decide +kernel
theorem dX3_leadsTo_34 : decode cX3_leadsTo 34 = .ok (.ishr, 1) := by decide +kernel
theorem dX3_leadsTo_35 : decode cX3_leadsTo 35 = .ok (.istore 7, 2) := by decide +kernel
theorem dX3_leadsTo_37 : decode cX3_leadsTo 37 = .ok (.aload_n 0, 1) := by decide +kernel
theorem dX3_leadsTo_38 : decode cX3_leadsTo 38 = .ok (.getfield 32, 3) := by decide +kernel
theorem dX3_leadsTo_41 : decode cX3_leadsTo 41 = .ok (.iload 6, 2) := by decide +kernel
theorem dX3_leadsTo_43 : decode cX3_leadsTo 43 = .ok (.iload 7, 2) := by decide +kernel
theorem dX3_leadsTo_45 : decode cX3_leadsTo 45 = .ok (.invokevirtual 69, 3) := by decide +kernel
theorem dX3_leadsTo_48 : decode cX3_leadsTo 48 = .ok (.ifCond .ne 6, 3) := by decide +kernel
theorem dX3_leadsTo_51 : decode cX3_leadsTo 51 = .ok (.goto 68, 3) := by decide +kernel
theorem dX3_leadsTo_54 : decode cX3_leadsTo 54 = .ok (.aload_n 0, 1) := by decide +kernel
theorem dX3_leadsTo_55 : decode cX3_leadsTo 55 = .ok (.getfield 32, 3) := by decide +kernel
theorem dX3_leadsTo_58 : decode cX3_leadsTo 58 = .ok (.iload 6, 2) := by decide +kernel
theorem dX3_leadsTo_60 : decode cX3_leadsTo 60 = .ok (.iload 7, 2) := by decide +kernel
theorem dX3_leadsTo_62 : decode cX3_leadsTo 62 = .ok (.invokevirtual 73, 3) := by decide +kernel
theorem dX3_leadsTo_65 : decode cX3_leadsTo 65 = .ok (.aload_n 0, 1) := by decide +kernel
theorem dX3_leadsTo_66 : decode cX3_leadsTo 66 = .ok (.getfield 32, 3) := by decide +kernel
theorem dX3_leadsTo_69 : decode cX3_leadsTo 69 = .ok (.getfield 77, 3) := by decide +kernel
theorem dX3_leadsTo_72 : decode cX3_leadsTo 72 = .ok (.aload_n 0, 1) := by decide +kernel
theorem dX3_leadsTo_73 : decode cX3_leadsTo 73 = .ok (.getfield 23, 3) := by decide +kernel
theorem dX3_leadsTo_76 : decode cX3_leadsTo 76 = .ok (.getfield 80, 3) := by decide +kernel
theorem dX3_leadsTo_79 : decode cX3_leadsTo 79 = .ok (.if_icmp .gt 29, 3) := by decide +kernel
theorem dX3_leadsTo_82 : decode cX3_leadsTo 82 = .ok (.aload_n 0, 1) := by decide +kernel
theorem dX3_leadsTo_83 : decode cX3_leadsTo 83 = .ok (.getfield 32, 3) := by decide +kernel
theorem dX3_leadsTo_86 : decode cX3_leadsTo 86 = .ok (.iload_n 3, 1) := by decide +kernel
theorem dX3_leadsTo_87 : decode cX3_leadsTo 87 = .ok (.iload 4, 2) := by decide +kernel
theorem dX3_leadsTo_89 : decode cX3_leadsTo 89 = .ok (.invokestatic 36, 3) := by decide +kernel
theorem dX3_leadsTo_92 : decode cX3_leadsTo 92 = .ok (.ifCond .eq 5, 3) := by decide +kernel
theorem dX3_leadsTo_95 : decode cX3_leadsTo 95 = .ok (.iconst 1, 1) := by decide +kernel
theorem dX3_leadsTo_96 : decode cX3_leadsTo 96 = .ok (.ireturn, 1) := by decide +kernel
theorem dX3_leadsTo_97 : decode cX3_leadsTo 97 = .ok (.aload_n 0, 1) := by decide +kernel
theorem dX3_leadsTo_98 : decode cX3_leadsTo 98 = .ok (.aload_n 0, 1) := by decide +kernel
theorem dX3_leadsTo_99 : decode cX3_leadsTo 99 = .ok (.getfield 32, 3) := by decide +kernel
theorem dX3_leadsTo_102 : decode cX3_leadsTo 102 = .ok (.invokevirtual 46, 3) := by decide +kernel
theorem dX3_leadsTo_105 : decode cX3_leadsTo 105 = .ok (.invokevirtual 50, 3) := by decide +kernel
theorem dX3_leadsTo_108 : decode cX3_leadsTo 108 = .ok (.aload_n 0, 1) := by decide +kernel
theorem dX3_leadsTo_109 : decode cX3_leadsTo 109 = .ok (.getfield 32, 3) := by decide +kernel
theorem dX3_leadsTo_112 : decode cX3_leadsTo 112 = .ok (.iload 6, 2) := by decide +kernel
theorem dX3_leadsTo_114 : decode cX3_leadsTo 114 = .ok (.iload 7, 2) := by decide +kernel
theorem dX3_leadsTo_116 : decode cX3_leadsTo 116 = .ok (.invokevirtual 73, 3) := by decide +kernel
theorem dX3_leadsTo_119 : decode cX3_leadsTo 119 = .ok (.iinc 5 1, 3) := by decide +kernel
theorem dX3_leadsTo_122 : decode cX3_leadsTo 122 = .ok (.goto (-111), 3) := by decide +kernel
theorem dX3_leadsTo_125 : decode cX3_leadsTo 125 = .ok (.iconst 0, 1) := by decide +kernel
theorem dX3_leadsTo_126 : decode cX3_leadsTo 126 = .ok (.ireturn, 1) := by decide +kernel
theorem dX3_note_0 : decode cX3_note 0 = .ok (.aload_n 0, 1) := by decide +kernel
theorem dX3_note_1 : decode cX3_note 1 = .ok (.getfield 19, 3) := by decide +kernel
theorem dX3_note_4 : decode cX3_note 4 = .ok (.sipush 1000, 3) := by decide +kernel
theorem dX3_note_7 : decode cX3_note 7 = .ok (.if_icmp .le 4, 3) := by decide +kernel
theorem dX3_note_10 : decode cX3_note 10 = .ok (.return_, 1) := by decide +kernel
theorem dX3_note_11 : decode cX3_note 11 = .ok (.lload_n 1, 1) := by decide +kernel
theorem dX3_note_12 : decode cX3_note 12 = .ok (.ldc2_w 83, 3) := by decide +kernel
theorem dX3_note_15 : decode cX3_note 15 = .ok (.lmul, 1) := by decide +kernel
theorem dX3_note_16 : decode cX3_note 16 = .ok (.bipush 53, 2) := by decide +kernel
theorem dX3_note_18 : decode cX3_note 18 = .ok (.lushr, 1) := by decide +kernel
theorem dX3_note_19 : decode cX3_note 19 = .ok (.l2i, 1) := by decide +kernel
theorem dX3_note_20 : decode cX3_note 20 = .ok (.sipush 2047, 3) := by decide +kernel
theorem dX3_note_23 : decode cX3_note 23 = .ok (.iand, 1) := by decide +kernel
theorem dX3_note_24 : decode cX3_note 24 = .ok (.istore_n 3, 1) := by decide +kernel
theorem dX3_note_25 : decode cX3_note 25 = .ok (.iconst 0, 1) := by decide +kernel
theorem dX3_note_26 : decode cX3_note 26 = .ok (.istore 4, 2) := by decide +kernel
theorem dX3_note_28 : decode cX3_note 28 = .ok (.iload 4, 2) := by decide +kernel
theorem dX3_note_30 : decode cX3_note 30 = .ok (.sipush 2048, 3) := by decide +kernel
theorem dX3_note_33 : decode cX3_note 33 = .ok (.if_icmp .ge 61, 3) := by decide +kernel
theorem dX3_note_36 : decode cX3_note 36 = .ok (.aload_n 0, 1) := by decide +kernel
theorem dX3_note_37 : decode cX3_note 37 = .ok (.getfield 15, 3) := by decide +kernel
theorem dX3_note_40 : decode cX3_note 40 = .ok (.iload_n 3, 1) := by decide +kernel
theorem dX3_note_41 : decode cX3_note 41 = .ok (.iaload, 1) := by decide +kernel
theorem dX3_note_42 : decode cX3_note 42 = .ok (.ifCond .eq 52, 3) := by decide +kernel
theorem dX3_note_45 : decode cX3_note 45 = .ok (.aload_n 0, 1) := by decide +kernel
theorem dX3_note_46 : decode cX3_note 46 = .ok (.getfield 15, 3) := by decide +kernel
theorem dX3_note_49 : decode cX3_note 49 = .ok (.iload_n 3, 1) := by decide +kernel
theorem dX3_note_50 : decode cX3_note 50 = .ok (.iaload, 1) := by decide +kernel
theorem dX3_note_51 : decode cX3_note 51 = .ok (.iconst 1, 1) := by decide +kernel
theorem dX3_note_52 : decode cX3_note 52 = .ok (.isub, 1) := by decide +kernel
theorem dX3_note_53 : decode cX3_note 53 = .ok (.istore 5, 2) := by decide +kernel
theorem dX3_note_55 : decode cX3_note 55 = .ok (.iload 5, 2) := by decide +kernel
theorem dX3_note_57 : decode cX3_note 57 = .ok (.aload_n 0, 1) := by decide +kernel
theorem dX3_note_58 : decode cX3_note 58 = .ok (.getfield 19, 3) := by decide +kernel
theorem dX3_note_61 : decode cX3_note 61 = .ok (.invokestatic 85, 3) := by decide +kernel
theorem dX3_note_64 : decode cX3_note 64 = .ok (.ifCond .eq 16, 3) := by decide +kernel
theorem dX3_note_67 : decode cX3_note 67 = .ok (.aload_n 0, 1) := by decide +kernel
theorem dX3_note_68 : decode cX3_note 68 = .ok (.getfield 11, 3) := by decide +kernel
theorem dX3_note_71 : decode cX3_note 71 = .ok (.iload 5, 2) := by decide +kernel
theorem dX3_note_73 : decode cX3_note 73 = .ok (.laload, 1) := by decide +kernel
theorem dX3_note_74 : decode cX3_note 74 = .ok (.lload_n 1, 1) := by decide +kernel
theorem dX3_note_75 : decode cX3_note 75 = .ok (.lcmp, 1) := by decide +kernel
theorem dX3_note_76 : decode cX3_note 76 = .ok (.ifCond .ne 4, 3) := by decide +kernel
theorem dX3_note_79 : decode cX3_note 79 = .ok (.return_, 1) := by decide +kernel
theorem dX3_note_80 : decode cX3_note 80 = .ok (.iload_n 3, 1) := by decide +kernel
theorem dX3_note_81 : decode cX3_note 81 = .ok (.iconst 1, 1) := by decide +kernel
theorem dX3_note_82 : decode cX3_note 82 = .ok (.iadd, 1) := by decide +kernel
theorem dX3_note_83 : decode cX3_note 83 = .ok (.sipush 2047, 3) := by decide +kernel
theorem dX3_note_86 : decode cX3_note 86 = .ok (.iand, 1) := by decide +kernel
theorem dX3_note_87 : decode cX3_note 87 = .ok (.istore_n 3, 1) := by decide +kernel
theorem dX3_note_88 : decode cX3_note 88 = .ok (.iinc 4 1, 3) := by decide +kernel
theorem dX3_note_91 : decode cX3_note 91 = .ok (.goto (-63), 3) := by decide +kernel
theorem dX3_note_94 : decode cX3_note 94 = .ok (.aload_n 0, 1) := by decide +kernel
theorem dX3_note_95 : decode cX3_note 95 = .ok (.getfield 11, 3) := by decide +kernel
theorem dX3_note_98 : decode cX3_note 98 = .ok (.aload_n 0, 1) := by decide +kernel
theorem dX3_note_99 : decode cX3_note 99 = .ok (.getfield 19, 3) := by decide +kernel
theorem dX3_note_102 : decode cX3_note 102 = .ok (.lload_n 1, 1) := by decide +kernel
theorem dX3_note_103 : decode cX3_note 103 = .ok (.lastore, 1) := by decide +kernel
theorem dX3_note_104 : decode cX3_note 104 = .ok (.aload_n 0, 1) := by decide +kernel
theorem dX3_note_105 : decode cX3_note 105 = .ok (.dup, 1) := by decide +kernel
theorem dX3_note_106 : decode cX3_note 106 = .ok (.getfield 19, 3) := by decide +kernel
theorem dX3_note_109 : decode cX3_note 109 = .ok (.iconst 1, 1) := by decide +kernel
theorem dX3_note_110 : decode cX3_note 110 = .ok (.iadd, 1) := by decide +kernel
theorem dX3_note_111 : decode cX3_note 111 = .ok (.putfield 19, 3) := by decide +kernel
theorem dX3_note_114 : decode cX3_note 114 = .ok (.aload_n 0, 1) := by decide +kernel
theorem dX3_note_115 : decode cX3_note 115 = .ok (.getfield 15, 3) := by decide +kernel
theorem dX3_note_118 : decode cX3_note 118 = .ok (.iload_n 3, 1) := by decide +kernel
theorem dX3_note_119 : decode cX3_note 119 = .ok (.aload_n 0, 1) := by decide +kernel
theorem dX3_note_120 : decode cX3_note 120 = .ok (.getfield 19, 3) := by decide +kernel
theorem dX3_note_123 : decode cX3_note 123 = .ok (.iastore, 1) := by decide +kernel
theorem dX3_note_124 : decode cX3_note 124 = .ok (.return_, 1) := by decide +kernel
theorem dX4_init_0 : decode cX4_init 0 = .ok (.aload_n 0, 1) := by decide +kernel
theorem dX4_init_1 : decode cX4_init 1 = .ok (.invokespecial 3, 3) := by decide +kernel
theorem dX4_init_4 : decode cX4_init 4 = .ok (.aload_n 0, 1) := by decide +kernel
theorem dX4_init_5 : decode cX4_init 5 = .ok (.bipush 60, 2) := by decide +kernel
theorem dX4_init_7 : decode cX4_init 7 = .ok (.newarray .int, 2) := by decide +kernel
theorem dX4_init_9 : decode cX4_init 9 = .ok (.putfield 9, 3) := by decide +kernel
theorem dX4_init_12 : decode cX4_init 12 = .ok (.aload_n 0, 1) := by decide +kernel
theorem dX4_init_13 : decode cX4_init 13 = .ok (.iconst (-1), 1) := by decide +kernel
theorem dX4_init_14 : decode cX4_init 14 = .ok (.putfield 15, 3) := by decide +kernel
theorem dX4_init_17 : decode cX4_init 17 = .ok (.aload_n 0, 1) := by decide +kernel
theorem dX4_init_18 : decode cX4_init 18 = .ok (.iconst 0, 1) := by decide +kernel
theorem dX4_init_19 : decode cX4_init 19 = .ok (.putfield 19, 3) := by decide +kernel
theorem dX4_init_22 : decode cX4_init 22 = .ok (.return_, 1) := by decide +kernel
theorem dX4_renew_0 : decode cX4_renew 0 = .ok (.aload_n 0, 1) := by decide +kernel
theorem dX4_renew_1 : decode cX4_renew 1 = .ok (.getfield 9, 3) := by decide +kernel
theorem dX4_renew_4 : decode cX4_renew 4 = .ok (.iconst 0, 1) := by decide +kernel
theorem dX4_renew_5 : decode cX4_renew 5 = .ok (.invokestatic 22, 3) := by decide +kernel
theorem dX4_renew_8 : decode cX4_renew 8 = .ok (.aload_n 0, 1) := by decide +kernel
theorem dX4_renew_9 : decode cX4_renew 9 = .ok (.iload_n 1, 1) := by decide +kernel
theorem dX4_renew_10 : decode cX4_renew 10 = .ok (.putfield 15, 3) := by decide +kernel
theorem dX4_renew_13 : decode cX4_renew 13 = .ok (.aload_n 0, 1) := by decide +kernel
theorem dX4_renew_14 : decode cX4_renew 14 = .ok (.iload_n 2, 1) := by decide +kernel
theorem dX4_renew_15 : decode cX4_renew 15 = .ok (.putfield 19, 3) := by decide +kernel
theorem dX4_renew_18 : decode cX4_renew 18 = .ok (.return_, 1) := by decide +kernel
theorem dX4_hasItems_0 : decode cX4_hasItems 0 = .ok (.iload_n 1, 1) := by decide +kernel
theorem dX4_hasItems_1 : decode cX4_hasItems 1 = .ok (.ifCond .lt 29, 3) := by decide +kernel
theorem dX4_hasItems_4 : decode cX4_hasItems 4 = .ok (.iload_n 2, 1) := by decide +kernel
theorem dX4_hasItems_5 : decode cX4_hasItems 5 = .ok (.ifCond .lt 25, 3) := by decide +kernel
theorem dX4_hasItems_8 : decode cX4_hasItems 8 = .ok (.iload_n 1, 1) := by decide +kernel
theorem dX4_hasItems_9 : decode cX4_hasItems 9 = .ok (.aload_n 0, 1) := by decide +kernel
theorem dX4_hasItems_10 : decode cX4_hasItems 10 = .ok (.getfield 19, 3) := by decide +kernel
theorem dX4_hasItems_13 : decode cX4_hasItems 13 = .ok (.if_icmp .gt 17, 3) := by decide +kernel
theorem dX4_hasItems_16 : decode cX4_hasItems 16 = .ok (.iload_n 2, 1) := by decide +kernel
theorem dX4_hasItems_17 : decode cX4_hasItems 17 = .ok (.aload_n 0, 1) := by decide +kernel
theorem dX4_hasItems_18 : decode cX4_hasItems 18 = .ok (.getfield 19, 3) := by decide +kernel
theorem dX4_hasItems_21 : decode cX4_hasItems 21 = .ok (.iload_n 1, 1) := by decide +kernel
theorem dX4_hasItems_22 : decode cX4_hasItems 22 = .ok (.isub, 1) := by decide +kernel
theorem dX4_hasItems_23 : decode cX4_hasItems 23 = .ok (.if_icmp .gt 7, 3) := by decide +kernel
theorem dX4_hasItems_26 : decode cX4_hasItems 26 = .ok (.iconst 1, 1) := by decide +kernel
theorem dX4_hasItems_27 : decode cX4_hasItems 27 = .ok (.goto 4, 3) := by decide +kernel
theorem dX4_hasItems_30 : decode cX4_hasItems 30 = .ok (.iconst 0, 1) := by decide +kernel
theorem dX4_hasItems_31 : decode cX4_hasItems 31 = .ok (.ireturn, 1) := by decide +kernel
theorem dX4_findsAt_0 : decode cX4_findsAt 0 = .ok (.aload_n 0, 1) := by decide +kernel
theorem dX4_findsAt_1 : decode cX4_findsAt 1 = .ok (.getfield 15, 3) := by decide +kernel
theorem dX4_findsAt_4 : decode cX4_findsAt 4 = .ok (.iconst (-1), 1) := by decide +kernel
theorem dX4_findsAt_5 : decode cX4_findsAt 5 = .ok (.if_icmp .ne 5, 3) := by decide +kernel
theorem dX4_findsAt_8 : decode cX4_findsAt 8 = .ok (.iconst 1, 1) := by decide +kernel
theorem dX4_findsAt_9 : decode cX4_findsAt 9 = .ok (.ireturn, 1) := by decide +kernel
theorem dX4_findsAt_10 : decode cX4_findsAt 10 = .ok (.aload_n 0, 1) := by decide +kernel
theorem dX4_findsAt_11 : decode cX4_findsAt 11 = .ok (.getfield 15, 3) := by decide +kernel
theorem dX4_findsAt_14 : decode cX4_findsAt 14 = .ok (.iload_n 1, 1) := by decide +kernel
theorem dX4_findsAt_15 : decode cX4_findsAt 15 = .ok (.if_icmp .eq 5, 3) := by decide +kernel
theorem dX4_findsAt_18 : decode cX4_findsAt 18 = .ok (.iconst 3, 1) := by decide +kernel
theorem dX4_findsAt_19 : decode cX4_findsAt 19 = .ok (.ireturn, 1) := by decide +kernel
theorem dX4_findsAt_20 : decode cX4_findsAt 20 = .ok (.iload_n 2, 1) := by decide +kernel
theorem dX4_findsAt_21 : decode cX4_findsAt 21 = .ok (.aload_n 0, 1) := by decide +kernel
theorem dX4_findsAt_22 : decode cX4_findsAt 22 = .ok (.getfield 19, 3) := by decide +kernel
theorem dX4_findsAt_25 : decode cX4_findsAt 25 = .ok (.invokestatic 28, 3) := by decide +kernel
theorem dX4_findsAt_28 : decode cX4_findsAt 28 = .ok (.ifCond .eq 7, 3) := by decide +kernel
theorem dX4_findsAt_31 : decode cX4_findsAt 31 = .ok (.iconst 0, 1) := by decide +kernel
theorem dX4_findsAt_32 : decode cX4_findsAt 32 = .ok (.goto 4, 3) := by decide +kernel
theorem dX4_findsAt_35 : decode cX4_findsAt 35 = .ok (.iconst 2, 1) := by decide +kernel
theorem dX4_findsAt_36 : decode cX4_findsAt 36 = .ok (.ireturn, 1) := by decide +kernel
theorem dX4_item_0 : decode cX4_item 0 = .ok (.iload_n 1, 1) := by decide +kernel
theorem dX4_item_1 : decode cX4_item 1 = .ok (.aload_n 0, 1) := by decide +kernel
theorem dX4_item_2 : decode cX4_item 2 = .ok (.getfield 19, 3) := by decide +kernel
theorem dX4_item_5 : decode cX4_item 5 = .ok (.invokestatic 28, 3) := by decide +kernel
theorem dX4_item_8 : decode cX4_item 8 = .ok (.ifCond .eq 21, 3) := by decide +kernel
theorem dX4_item_11 : decode cX4_item 11 = .ok (.iload_n 1, 1) := by decide +kernel
theorem dX4_item_12 : decode cX4_item 12 = .ok (.bipush 60, 2) := by decide +kernel
theorem dX4_item_14 : decode cX4_item 14 = .ok (.invokestatic 28, 3) := by decide +kernel
theorem dX4_item_17 : decode cX4_item 17 = .ok (.ifCond .eq 12, 3) := by decide +kernel
theorem dX4_item_20 : decode cX4_item 20 = .ok (.aload_n 0, 1) := by decide +kernel
theorem dX4_item_21 : decode cX4_item 21 = .ok (.getfield 9, 3) := by decide +kernel
theorem dX4_item_24 : decode cX4_item 24 = .ok (.iload_n 1, 1) := by decide +kernel
theorem dX4_item_25 : decode cX4_item 25 = .ok (.iaload, 1) := by decide +kernel
theorem dX4_item_26 : decode cX4_item 26 = .ok (.goto 4, 3) := by decide +kernel
theorem dX4_item_29 : decode cX4_item 29 = .ok (.iconst 0, 1) := by decide +kernel
theorem dX4_item_30 : decode cX4_item 30 = .ok (.ireturn, 1) := by decide +kernel
theorem dX4_put_0 : decode cX4_put 0 = .ok (.iload_n 1, 1) := by decide +kernel
theorem dX4_put_1 : decode cX4_put 1 = .ok (.aload_n 0, 1) := by decide +kernel
theorem dX4_put_2 : decode cX4_put 2 = .ok (.getfield 19, 3) := by decide +kernel
theorem dX4_put_5 : decode cX4_put 5 = .ok (.invokestatic 28, 3) := by decide +kernel
theorem dX4_put_8 : decode cX4_put 8 = .ok (.ifCond .eq 23, 3) := by decide +kernel
theorem dX4_put_11 : decode cX4_put 11 = .ok (.iload_n 1, 1) := by decide +kernel
theorem dX4_put_12 : decode cX4_put 12 = .ok (.bipush 60, 2) := by decide +kernel
theorem dX4_put_14 : decode cX4_put 14 = .ok (.invokestatic 28, 3) := by decide +kernel
theorem dX4_put_17 : decode cX4_put 17 = .ok (.ifCond .eq 14, 3) := by decide +kernel
theorem dX4_put_20 : decode cX4_put 20 = .ok (.aload_n 0, 1) := by decide +kernel
theorem dX4_put_21 : decode cX4_put 21 = .ok (.getfield 9, 3) := by decide +kernel
theorem dX4_put_24 : decode cX4_put 24 = .ok (.iload_n 1, 1) := by decide +kernel
theorem dX4_put_25 : decode cX4_put 25 = .ok (.aload_n 0, 1) := by decide +kernel
theorem dX4_put_26 : decode cX4_put 26 = .ok (.iload_n 2, 1) := by decide +kernel
theorem dX4_put_27 : decode cX4_put 27 = .ok (.invokevirtual 32, 3) := by decide +kernel
theorem dX4_put_30 : decode cX4_put 30 = .ok (.iastore, 1) := by decide +kernel
theorem dX4_put_31 : decode cX4_put 31 = .ok (.return_, 1) := by decide +kernel
theorem dX4_cut_0 : decode cX4_cut 0 = .ok (.aload_n 0, 1) := by decide +kernel
theorem dX4_cut_1 : decode cX4_cut 1 = .ok (.getfield 15, 3) := by decide +kernel
theorem dX4_cut_4 : decode cX4_cut 4 = .ok (.ifCond .ne 6, 3) := by decide +kernel
theorem dX4_cut_7 : decode cX4_cut 7 = .ok (.iload_n 1, 1) := by decide +kernel
theorem dX4_cut_8 : decode cX4_cut 8 = .ok (.i2b, 1) := by decide +kernel
theorem dX4_cut_9 : decode cX4_cut 9 = .ok (.ireturn, 1) := by decide +kernel
theorem dX4_cut_10 : decode cX4_cut 10 = .ok (.aload_n 0, 1) := by decide +kernel
theorem dX4_cut_11 : decode cX4_cut 11 = .ok (.getfield 15, 3) := by decide +kernel
theorem dX4_cut_14 : decode cX4_cut 14 = .ok (.iconst 1, 1) := by decide +kernel
theorem dX4_cut_15 : decode cX4_cut 15 = .ok (.if_icmp .ne 8, 3) := by decide +kernel
theorem dX4_cut_18 : decode cX4_cut 18 = .ok (.iload_n 1, 1) := by decide +kernel
theorem dX4_cut_19 : decode cX4_cut 19 = .ok (.i2s, 1) := by decide +kernel
theorem dX4_cut_20 : decode cX4_cut 20 = .ok (.goto 4, 3) := by decide +kernel
theorem dX4_cut_23 : decode cX4_cut 23 = .ok (.iload_n 1, 1) := by decide +kernel
theorem dX4_cut_24 : decode cX4_cut 24 = .ok (.ireturn, 1) := by decide +kernel
theorem dX5_init_0 : decode cX5_init 0 = .ok (.aload_n 0, 1) := by decide +kernel
theorem dX5_init_1 : decode cX5_init 1 = .ok (.invokespecial 3, 3) := by decide +kernel
theorem dX5_init_4 : decode cX5_init 4 = .ok (.aload_n 0, 1) := by decide +kernel
theorem dX5_init_5 : decode cX5_init 5 = .ok (.bipush 40, 2) := by decide +kernel
theorem dX5_init_7 : decode cX5_init 7 = .ok (.newarray .int, 2) := by decide +kernel
theorem dX5_init_9 : decode cX5_init 9 = .ok (.putfield 9, 3) := by decide +kernel
theorem dX5_init_12 : decode cX5_init 12 = .ok (.aload_n 0, 1) := by decide +kernel
theorem dX5_init_13 : decode cX5_init 13 = .ok (.iconst 0, 1) := by decide +kernel
theorem dX5_init_14 : decode cX5_init 14 = .ok (.putfield 15, 3) := by decide +kernel
theorem dX5_init_17 : decode cX5_init 17 = .ok (.return_, 1) := by decide +kernel
theorem dX5_add_0 : decode cX5_add 0 = .ok (.aload_n 0, 1) := by decide +kernel
theorem dX5_add_1 : decode cX5_add 1 = .ok (.getfield 15, 3) := by decide +kernel
theorem dX5_add_4 : decode cX5_add 4 = .ok (.bipush 40, 2) := by decide +kernel
theorem dX5_add_6 : decode cX5_add 6 = .ok (.invokestatic 19, 3) := by decide +kernel
theorem dX5_add_9 : decode cX5_add 9 = .ok (.ifCond .eq 23, 3) := by decide +kernel
theorem dX5_add_12 : decode cX5_add 12 = .ok (.aload_n 0, 1) := by decide +kernel
theorem dX5_add_13 : decode cX5_add 13 = .ok (.getfield 9, 3) := by decide +kernel
theorem dX5_add_16 : decode cX5_add 16 = .ok (.aload_n 0, 1) := by decide +kernel
theorem dX5_add_17 : decode cX5_add 17 = .ok (.getfield 15, 3) := by decide +kernel
theorem dX5_add_20 : decode cX5_add 20 = .ok (.iload_n 1, 1) := by decide +kernel
theorem dX5_add_21 : decode cX5_add 21 = .ok (.iastore, 1) := by decide +kernel
theorem dX5_add_22 : decode cX5_add 22 = .ok (.aload_n 0, 1) := by decide +kernel
theorem dX5_add_23 : decode cX5_add 23 = .ok (.dup, 1) := by decide +kernel
theorem dX5_add_24 : decode cX5_add 24 = .ok (.getfield 15, 3) := by decide +kernel
theorem dX5_add_27 : decode cX5_add 27 = .ok (.iconst 1, 1) := by decide +kernel
theorem dX5_add_28 : decode cX5_add 28 = .ok (.iadd, 1) := by decide +kernel
theorem dX5_add_29 : decode cX5_add 29 = .ok (.putfield 15, 3) := by decide +kernel
theorem dX5_add_32 : decode cX5_add 32 = .ok (.return_, 1) := by decide +kernel
theorem dX5_byteAt_0 : decode cX5_byteAt 0 = .ok (.iload_n 1, 1) := by decide +kernel
theorem dX5_byteAt_1 : decode cX5_byteAt 1 = .ok (.ifCond .lt 26, 3) := by decide +kernel
theorem dX5_byteAt_4 : decode cX5_byteAt 4 = .ok (.iload_n 1, 1) := by decide +kernel
theorem dX5_byteAt_5 : decode cX5_byteAt 5 = .ok (.aload_n 0, 1) := by decide +kernel
theorem dX5_byteAt_6 : decode cX5_byteAt 6 = .ok (.getfield 15, 3) := by decide +kernel
theorem dX5_byteAt_9 : decode cX5_byteAt 9 = .ok (.if_icmp .ge 18, 3) := by decide +kernel
theorem dX5_byteAt_12 : decode cX5_byteAt 12 = .ok (.iload_n 1, 1) := by decide +kernel
theorem dX5_byteAt_13 : decode cX5_byteAt 13 = .ok (.bipush 40, 2) := by decide +kernel
theorem dX5_byteAt_15 : decode cX5_byteAt 15 = .ok (.if_icmp .ge 12, 3) := by decide +kernel
theorem dX5_byteAt_18 : decode cX5_byteAt 18 = .ok (.aload_n 0, 1) := by decide +kernel
theorem dX5_byteAt_19 : decode cX5_byteAt 19 = .ok (.getfield 9, 3) := by decide +kernel
theorem dX5_byteAt_22 : decode cX5_byteAt 22 = .ok (.iload_n 1, 1) := by decide +kernel
theorem dX5_byteAt_23 : decode cX5_byteAt 23 = .ok (.iaload, 1) := by decide +kernel
theorem dX5_byteAt_24 : decode cX5_byteAt 24 = .ok (.goto 4, 3) := by decide +kernel
theorem dX5_byteAt_27 : decode cX5_byteAt 27 = .ok (.iconst (-1), 1) := by decide +kernel
theorem dX5_byteAt_28 : decode cX5_byteAt 28 = .ok (.ireturn, 1) := by decide +kernel
theorem dX6_init_0 : decode cX6_init 0 = .ok (.aload_n 0, 1) := by decide +kernel
theorem dX6_init_1 : decode cX6_init 1 = .ok (.invokespecial 3, 3) := by decide +kernel
theorem dX6_init_4 : decode cX6_init 4 = .ok (.aload_n 0, 1) := by decide +kernel
theorem dX6_init_5 : decode cX6_init 5 = .ok (.iconst 0, 1) := by decide +kernel
theorem dX6_init_6 : decode cX6_init 6 = .ok (.putfield 9, 3) := by decide +kernel
theorem dX6_init_9 : decode cX6_init 9 = .ok (.aload_n 0, 1) := by decide +kernel
theorem dX6_init_10 : decode cX6_init 10 = .ok (.iconst (-1), 1) := by decide +kernel
theorem dX6_init_11 : decode cX6_init 11 = .ok (.putfield 15, 3) := by decide +kernel
theorem dX6_init_14 : decode cX6_init 14 = .ok (.aload_n 0, 1) := by decide +kernel
theorem dX6_init_15 : decode cX6_init 15 = .ok (.aload_n 1, 1) := by decide +kernel
theorem dX6_init_16 : decode cX6_init 16 = .ok (.putfield 18, 3) := by decide +kernel
theorem dX6_init_19 : decode cX6_init 19 = .ok (.aload_n 0, 1) := by decide +kernel
theorem dX6_init_20 : decode cX6_init 20 = .ok (.new 22, 3) := by decide +kernel
theorem dX6_init_23 : decode cX6_init 23 = .ok (.dup, 1) := by decide +kernel
theorem dX6_init_24 : decode cX6_init 24 = .ok (.aload_n 1, 1) := by decide +kernel
theorem dX6_init_25 : decode cX6_init 25 = .ok (.invokespecial 24, 3) := by decide +kernel
theorem dX6_init_28 : decode cX6_init 28 = .ok (.putfield 27, 3) := by decide +kernel
theorem dX6_init_31 : decode cX6_init 31 = .ok (.return_, 1) := by decide +kernel
theorem dX6_play_0 : decode cX6_play 0 = .ok (.aload_n 0, 1) := by decide +kernel
theorem dX6_play_1 : decode cX6_play 1 = .ok (.getfield 27, 3) := by decide +kernel
theorem dX6_play_4 : decode cX6_play 4 = .ok (.aload_n 1, 1) := by decide +kernel
theorem dX6_play_5 : decode cX6_play 5 = .ok (.getfield 31, 3) := by decide +kernel
theorem dX6_play_8 : decode cX6_play 8 = .ok (.invokevirtual 34, 3) := by decide +kernel
theorem dX6_play_11 : decode cX6_play 11 = .ok (.aload_n 0, 1) := by decide +kernel
theorem dX6_play_12 : decode cX6_play 12 = .ok (.aload_n 1, 1) := by decide +kernel
theorem dX6_play_13 : decode cX6_play 13 = .ok (.getfield 38, 3) := by decide +kernel
theorem dX6_play_16 : decode cX6_play 16 = .ok (.putfield 9, 3) := by decide +kernel
theorem dX6_play_19 : decode cX6_play 19 = .ok (.aload_n 0, 1) := by decide +kernel
theorem dX6_play_20 : decode cX6_play 20 = .ok (.iconst 0, 1) := by decide +kernel
theorem dX6_play_21 : decode cX6_play 21 = .ok (.iload_n 2, 1) := by decide +kernel
theorem dX6_play_22 : decode cX6_play 22 = .ok (.sipush (-10000), 3) := by decide +kernel
theorem dX6_play_25 : decode cX6_play 25 = .ok (.sipush 10000, 3) := by decide +kernel
theorem dX6_play_28 : decode cX6_play 28 = .ok (.invokevirtual 39, 3) := by decide +kernel
theorem dX6_play_31 : decode cX6_play 31 = .ok (.ireturn, 1) := by decide +kernel
theorem dX6_gain_0 : decode cX6_gain 0 = .ok (.aload_n 0, 1) := by decide +kernel
theorem dX6_gain_1 : decode cX6_gain 1 = .ok (.iconst (-1), 1) := by decide +kernel
theorem dX6_gain_2 : decode cX6_gain 2 = .ok (.putfield 15, 3) := by decide +kernel
theorem dX6_gain_5 : decode cX6_gain 5 = .ok (.iload_n 2, 1) := by decide +kernel
theorem dX6_gain_6 : decode cX6_gain 6 = .ok (.ifCond .le 17, 3) := by decide +kernel
theorem dX6_gain_9 : decode cX6_gain 9 = .ok (.aload_n 0, 1) := by decide +kernel
theorem dX6_gain_10 : decode cX6_gain 10 = .ok (.getfield 18, 3) := by decide +kernel
theorem dX6_gain_13 : decode cX6_gain 13 = .ok (.aload_n 0, 1) := by decide +kernel
theorem dX6_gain_14 : decode cX6_gain 14 = .ok (.getfield 9, 3) := by decide +kernel
theorem dX6_gain_17 : decode cX6_gain 17 = .ok (.invokevirtual 43, 3) := by decide +kernel
theorem dX6_gain_20 : decode cX6_gain 20 = .ok (.ifCond .ne 5, 3) := by decide +kernel
theorem dX6_gain_23 : decode cX6_gain 23 = .ok (.iconst 0, 1) := by decide +kernel
theorem dX6_gain_24 : decode cX6_gain 24 = .ok (.ireturn, 1) := by decide +kernel
theorem dX6_gain_25 : decode cX6_gain 25 = .ok (.aload_n 0, 1) := by decide +kernel
theorem dX6_gain_26 : decode cX6_gain 26 = .ok (.iconst 1, 1) := by decide +kernel
theorem dX6_gain_27 : decode cX6_gain 27 = .ok (.iload_n 1, 1) := by decide +kernel
theorem dX6_gain_28 : decode cX6_gain 28 = .ok (.isub, 1) := by decide +kernel
theorem dX6_gain_29 : decode cX6_gain 29 = .ok (.iload_n 2, 1) := by decide +kernel
theorem dX6_gain_30 : decode cX6_gain 30 = .ok (.iconst 1, 1) := by decide +kernel
theorem dX6_gain_31 : decode cX6_gain 31 = .ok (.isub, 1) := by decide +kernel
theorem dX6_gain_32 : decode cX6_gain 32 = .ok (.iload 4, 2) := by decide +kernel
theorem dX6_gain_34 : decode cX6_gain 34 = .ok (.ineg, 1) := by decide +kernel
theorem dX6_gain_35 : decode cX6_gain 35 = .ok (.iload_n 3, 1) := by decide +kernel
theorem dX6_gain_36 : decode cX6_gain 36 = .ok (.ineg, 1) := by decide +kernel
theorem dX6_gain_37 : decode cX6_gain 37 = .ok (.invokevirtual 39, 3) := by decide +kernel
theorem dX6_gain_40 : decode cX6_gain 40 = .ok (.ineg, 1) := by decide +kernel
theorem dX6_gain_41 : decode cX6_gain 41 = .ok (.istore 5, 2) := by decide +kernel
theorem dX6_gain_43 : decode cX6_gain 43 = .ok (.iconst (-1), 1) := by decide +kernel
theorem dX6_gain_44 : decode cX6_gain 44 = .ok (.istore 6, 2) := by decide +kernel
theorem dX6_gain_46 : decode cX6_gain 46 = .ok (.iconst 0, 1) := by decide +kernel
theorem dX6_gain_47 : decode cX6_gain 47 = .ok (.istore 7, 2) := by decide +kernel
theorem dX6_gain_49 : decode cX6_gain 49 = .ok (.iload 7, 2) := by decide +kernel
theorem dX6_gain_51 : decode cX6_gain 51 = .ok (.aload_n 0, 1) := by decide +kernel
theorem dX6_gain_52 : decode cX6_gain 52 = .ok (.getfield 18, 3) := by decide +kernel
theorem dX6_gain_55 : decode cX6_gain 55 = .ok (.getfield 49, 3) := by decide +kernel
theorem dX6_gain_58 : decode cX6_gain 58 = .ok (.if_icmp .ge 100, 3) := by decide +kernel
theorem dX6_gain_61 : decode cX6_gain 61 = .ok (.iload 5, 2) := by decide +kernel
theorem dX6_gain_63 : decode cX6_gain 63 = .ok (.iload 4, 2) := by decide +kernel
theorem dX6_gain_65 : decode cX6_gain 65 = .ok (.if_icmp .ge 93, 3) := by decide +kernel
theorem dX6_gain_68 : decode cX6_gain 68 = .ok (.aload_n 0, 1) := by decide +kernel
theorem dX6_gain_69 : decode cX6_gain 69 = .ok (.getfield 27, 3) := by decide +kernel
theorem dX6_gain_72 : decode cX6_gain 72 = .ok (.iload_n 1, 1) := by decide +kernel
theorem dX6_gain_73 : decode cX6_gain 73 = .ok (.iload 7, 2) := by decide +kernel
theorem dX6_gain_75 : decode cX6_gain 75 = .ok (.invokevirtual 52, 3) := by decide +kernel
theorem dX6_gain_78 : decode cX6_gain 78 = .ok (.ifCond .ne 6, 3) := by decide +kernel
theorem dX6_gain_81 : decode cX6_gain 81 = .ok (.goto 71, 3) := by decide +kernel
theorem dX6_gain_84 : decode cX6_gain 84 = .ok (.aload_n 0, 1) := by decide +kernel
theorem dX6_gain_85 : decode cX6_gain 85 = .ok (.getfield 27, 3) := by decide +kernel
theorem dX6_gain_88 : decode cX6_gain 88 = .ok (.iload_n 1, 1) := by decide +kernel
theorem dX6_gain_89 : decode cX6_gain 89 = .ok (.iload 7, 2) := by decide +kernel
theorem dX6_gain_91 : decode cX6_gain 91 = .ok (.invokevirtual 56, 3) := by decide +kernel
theorem dX6_gain_94 : decode cX6_gain 94 = .ok (.aload_n 0, 1) := by decide +kernel
theorem dX6_gain_95 : decode cX6_gain 95 = .ok (.getfield 27, 3) := by decide +kernel
theorem dX6_gain_98 : decode cX6_gain 98 = .ok (.getfield 60, 3) := by decide +kernel
theorem dX6_gain_101 : decode cX6_gain 101 = .ok (.aload_n 0, 1) := by decide +kernel
theorem dX6_gain_102 : decode cX6_gain 102 = .ok (.getfield 18, 3) := by decide +kernel
theorem dX6_gain_105 : decode cX6_gain 105 = .ok (.getfield 63, 3) := by decide +kernel
theorem dX6_gain_108 : decode cX6_gain 108 = .ok (.if_icmp .gt 34, 3) := by decide +kernel
theorem dX6_gain_111 : decode cX6_gain 111 = .ok (.aload_n 0, 1) := by decide +kernel
theorem dX6_gain_112 : decode cX6_gain 112 = .ok (.iload_n 1, 1) := by decide +kernel
theorem dX6_gain_113 : decode cX6_gain 113 = .ok (.iload_n 2, 1) := by decide +kernel
theorem dX6_gain_114 : decode cX6_gain 114 = .ok (.iload_n 3, 1) := by decide +kernel
theorem dX6_gain_115 : decode cX6_gain 115 = .ok (.iload 5, 2) := by decide +kernel
theorem dX6_gain_117 : decode cX6_gain 117 = .ok (.invokestatic 66, 3) := by decide +kernel
theorem dX6_gain_120 : decode cX6_gain 120 = .ok (.iload 4, 2) := by decide +kernel
theorem dX6_gain_122 : decode cX6_gain 122 = .ok (.invokevirtual 72, 3) := by decide +kernel
theorem dX6_gain_125 : decode cX6_gain 125 = .ok (.istore 8, 2) := by decide +kernel
theorem dX6_gain_127 : decode cX6_gain 127 = .ok (.iload 8, 2) := by decide +kernel
theorem dX6_gain_129 : decode cX6_gain 129 = .ok (.iload 5, 2) := by decide +kernel
theorem dX6_gain_131 : decode cX6_gain 131 = .ok (.if_icmp .le 11, 3) := by decide +kernel
theorem dX6_gain_134 : decode cX6_gain 134 = .ok (.iload 8, 2) := by decide +kernel
theorem dX6_gain_136 : decode cX6_gain 136 = .ok (.istore 5, 2) := by decide +kernel
theorem dX6_gain_138 : decode cX6_gain 138 = .ok (.iload 7, 2) := by decide +kernel
theorem dX6_gain_140 : decode cX6_gain 140 = .ok (.istore 6, 2) := by decide +kernel
theorem dX6_gain_142 : decode cX6_gain 142 = .ok (.aload_n 0, 1) := by decide +kernel
theorem dX6_gain_143 : decode cX6_gain 143 = .ok (.getfield 27, 3) := by decide +kernel
theorem dX6_gain_146 : decode cX6_gain 146 = .ok (.iload_n 1, 1) := by decide +kernel
theorem dX6_gain_147 : decode cX6_gain 147 = .ok (.iload 7, 2) := by decide +kernel
theorem dX6_gain_149 : decode cX6_gain 149 = .ok (.invokevirtual 56, 3) := by decide +kernel
theorem dX6_gain_152 : decode cX6_gain 152 = .ok (.iinc 7 1, 3) := by decide +kernel
theorem dX6_gain_155 : decode cX6_gain 155 = .ok (.goto (-106), 3) := by decide +kernel
theorem dX6_gain_158 : decode cX6_gain 158 = .ok (.aload_n 0, 1) := by decide +kernel
theorem dX6_gain_159 : decode cX6_gain 159 = .ok (.iload 6, 2) := by decide +kernel
theorem dX6_gain_161 : decode cX6_gain 161 = .ok (.putfield 15, 3) := by decide +kernel
theorem dX6_gain_164 : decode cX6_gain 164 = .ok (.iload 5, 2) := by decide +kernel
theorem dX6_gain_166 : decode cX6_gain 166 = .ok (.ireturn, 1) := by decide +kernel
theorem dX6_gainByStep_0 : decode cX6_gainByStep 0 = .ok (.aload_n 0, 1) := by decide +kernel
theorem dX6_gainByStep_1 : decode cX6_gainByStep 1 = .ok (.getfield 9, 3) := by decide +kernel
theorem dX6_gainByStep_4 : decode cX6_gainByStep 4 = .ok (.istore 5, 2) := by decide +kernel
theorem dX6_gainByStep_6 : decode cX6_gainByStep 6 = .ok (.iload_n 1, 1) := by decide +kernel
theorem dX6_gainByStep_7 : decode cX6_gainByStep 7 = .ok (.iconst 2, 1) := by decide +kernel
theorem dX6_gainByStep_8 : decode cX6_gainByStep 8 = .ok (.invokestatic 75, 3) := by decide +kernel
theorem dX6_gainByStep_11 : decode cX6_gainByStep 11 = .ok (.ifCond .eq 15, 3) := by decide +kernel
theorem dX6_gainByStep_14 : decode cX6_gainByStep 14 = .ok (.aload_n 0, 1) := by decide +kernel
theorem dX6_gainByStep_15 : decode cX6_gainByStep 15 = .ok (.getfield 27, 3) := by decide +kernel
theorem dX6_gainByStep_18 : decode cX6_gainByStep 18 = .ok (.getfield 78, 3) := by decide +kernel
theorem dX6_gainByStep_21 : decode cX6_gainByStep 21 = .ok (.iload_n 1, 1) := by decide +kernel
theorem dX6_gainByStep_22 : decode cX6_gainByStep 22 = .ok (.iaload, 1) := by decide +kernel
theorem dX6_gainByStep_23 : decode cX6_gainByStep 23 = .ok (.goto 4, 3) := by decide +kernel
theorem dX6_gainByStep_26 : decode cX6_gainByStep 26 = .ok (.iconst (-1), 1) := by decide +kernel
theorem dX6_gainByStep_27 : decode cX6_gainByStep 27 = .ok (.istore 6, 2) := by decide +kernel
theorem dX6_gainByStep_29 : decode cX6_gainByStep 29 = .ok (.aload_n 0, 1) := by decide +kernel
theorem dX6_gainByStep_30 : decode cX6_gainByStep 30 = .ok (.getfield 18, 3) := by decide +kernel
theorem dX6_gainByStep_33 : decode cX6_gainByStep 33 = .ok (.iload 6, 2) := by decide +kernel
theorem dX6_gainByStep_35 : decode cX6_gainByStep 35 = .ok (.aload_n 0, 1) := by decide +kernel
theorem dX6_gainByStep_36 : decode cX6_gainByStep 36 = .ok (.getfield 9, 3) := by decide +kernel
theorem dX6_gainByStep_39 : decode cX6_gainByStep 39 = .ok (.invokevirtual 82, 3) := by decide +kernel
theorem dX6_gainByStep_42 : decode cX6_gainByStep 42 = .ok (.istore 7, 2) := by decide +kernel
theorem dX6_gainByStep_44 : decode cX6_gainByStep 44 = .ok (.aload_n 0, 1) := by decide +kernel
theorem dX6_gainByStep_45 : decode cX6_gainByStep 45 = .ok (.dup, 1) := by decide +kernel
theorem dX6_gainByStep_46 : decode cX6_gainByStep 46 = .ok (.getfield 9, 3) := by decide +kernel
theorem dX6_gainByStep_49 : decode cX6_gainByStep 49 = .ok (.iload 6, 2) := by decide +kernel
theorem dX6_gainByStep_51 : decode cX6_gainByStep 51 = .ok (.bipush 8, 2) := by decide +kernel
theorem dX6_gainByStep_53 : decode cX6_gainByStep 53 = .ok (.invokestatic 75, 3) := by decide +kernel
theorem dX6_gainByStep_56 : decode cX6_gainByStep 56 = .ok (.ifCond .eq 10, 3) := by decide +kernel
theorem dX6_gainByStep_59 : decode cX6_gainByStep 59 = .ok (.iconst 1, 1) := by decide +kernel
theorem dX6_gainByStep_60 : decode cX6_gainByStep 60 = .ok (.iload 6, 2) := by decide +kernel
theorem dX6_gainByStep_62 : decode cX6_gainByStep 62 = .ok (.ishl, 1) := by decide +kernel
theorem dX6_gainByStep_63 : decode cX6_gainByStep 63 = .ok (.goto 4, 3) := by decide +kernel
theorem dX6_gainByStep_66 : decode cX6_gainByStep 66 = .ok (.iconst 0, 1) := by decide +kernel
theorem dX6_gainByStep_67 : decode cX6_gainByStep 67 = .ok (.ior, 1) := by decide +kernel
theorem dX6_gainByStep_68 : decode cX6_gainByStep 68 = .ok (.putfield 9, 3) := by decide +kernel
theorem dX6_gainByStep_71 : decode cX6_gainByStep 71 = .ok (.iload 7, 2) := by decide +kernel
theorem dX6_gainByStep_73 : decode cX6_gainByStep 73 = .ok (.aload_n 0, 1) := by decide +kernel
theorem dX6_gainByStep_74 : decode cX6_gainByStep 74 = .ok (.iconst 1, 1) := by decide +kernel
theorem dX6_gainByStep_75 : decode cX6_gainByStep 75 = .ok (.iload_n 1, 1) := by decide +kernel
theorem dX6_gainByStep_76 : decode cX6_gainByStep 76 = .ok (.isub, 1) := by decide +kernel
theorem dX6_gainByStep_77 : decode cX6_gainByStep 77 = .ok (.iload_n 2, 1) := by decide +kernel
theorem dX6_gainByStep_78 : decode cX6_gainByStep 78 = .ok (.iconst 1, 1) := by decide +kernel
theorem dX6_gainByStep_79 : decode cX6_gainByStep 79 = .ok (.isub, 1) := by decide +kernel
theorem dX6_gainByStep_80 : decode cX6_gainByStep 80 = .ok (.iload 7, 2) := by decide +kernel
theorem dX6_gainByStep_82 : decode cX6_gainByStep 82 = .ok (.iload 4, 2) := by decide +kernel
theorem dX6_gainByStep_84 : decode cX6_gainByStep 84 = .ok (.isub, 1) := by decide +kernel
theorem dX6_gainByStep_85 : decode cX6_gainByStep 85 = .ok (.iload 7, 2) := by decide +kernel
theorem dX6_gainByStep_87 : decode cX6_gainByStep 87 = .ok (.iload_n 3, 1) := by decide +kernel
theorem dX6_gainByStep_88 : decode cX6_gainByStep 88 = .ok (.isub, 1) := by decide +kernel
theorem dX6_gainByStep_89 : decode cX6_gainByStep 89 = .ok (.invokevirtual 39, 3) := by decide +kernel
theorem dX6_gainByStep_92 : decode cX6_gainByStep 92 = .ok (.isub, 1) := by decide +kernel
theorem dX6_gainByStep_93 : decode cX6_gainByStep 93 = .ok (.istore 8, 2) := by decide +kernel
theorem dX6_gainByStep_95 : decode cX6_gainByStep 95 = .ok (.aload_n 0, 1) := by decide +kernel
theorem dX6_gainByStep_96 : decode cX6_gainByStep 96 = .ok (.iload 5, 2) := by decide +kernel
theorem dX6_gainByStep_98 : decode cX6_gainByStep 98 = .ok (.putfield 9, 3) := by decide +kernel
theorem dX6_gainByStep_101 : decode cX6_gainByStep 101 = .ok (.iload 8, 2) := by decide +kernel
theorem dX6_gainByStep_103 : decode cX6_gainByStep 103 = .ok (.ireturn, 1) := by decide +kernel
theorem dX7_init_0 : decode cX7_init 0 = .ok (.aload_n 0, 1) := by decide +kernel
theorem dX7_init_1 : decode cX7_init 1 = .ok (.invokespecial 3, 3) := by decide +kernel
theorem dX7_init_4 : decode cX7_init 4 = .ok (.aload_n 0, 1) := by decide +kernel
theorem dX7_init_5 : decode cX7_init 5 = .ok (.new 9, 3) := by decide +kernel
theorem dX7_init_8 : decode cX7_init 8 = .ok (.dup, 1) := by decide +kernel
theorem dX7_init_9 : decode cX7_init 9 = .ok (.invokespecial 11, 3) := by decide +kernel
theorem dX7_init_12 : decode cX7_init 12 = .ok (.putfield 12, 3) := by decide +kernel
theorem dX7_init_15 : decode cX7_init 15 = .ok (.aload_n 0, 1) := by decide +kernel
theorem dX7_init_16 : decode cX7_init 16 = .ok (.new 16, 3) := by decide +kernel
theorem dX7_init_19 : decode cX7_init 19 = .ok (.dup, 1) := by decide +kernel
theorem dX7_init_20 : decode cX7_init 20 = .ok (.aload_n 0, 1) := by decide +kernel
theorem dX7_init_21 : decode cX7_init 21 = .ok (.getfield 12, 3) := by decide +kernel
theorem dX7_init_24 : decode cX7_init 24 = .ok (.invokespecial 18, 3) := by decide +kernel
theorem dX7_init_27 : decode cX7_init 27 = .ok (.putfield 21, 3) := by decide +kernel
theorem dX7_init_30 : decode cX7_init 30 = .ok (.aload_n 0, 1) := by decide +kernel
theorem dX7_init_31 : decode cX7_init 31 = .ok (.new 16, 3) := by decide +kernel
theorem dX7_init_34 : decode cX7_init 34 = .ok (.dup, 1) := by decide +kernel
theorem dX7_init_35 : decode cX7_init 35 = .ok (.aload_n 0, 1) := by decide +kernel
theorem dX7_init_36 : decode cX7_init 36 = .ok (.getfield 12, 3) := by decide +kernel
theorem dX7_init_39 : decode cX7_init 39 = .ok (.invokespecial 18, 3) := by decide +kernel
theorem dX7_init_42 : decode cX7_init 42 = .ok (.putfield 25, 3) := by decide +kernel
theorem dX7_init_45 : decode cX7_init 45 = .ok (.aload_n 0, 1) := by decide +kernel
theorem dX7_init_46 : decode cX7_init 46 = .ok (.new 28, 3) := by decide +kernel
theorem dX7_init_49 : decode cX7_init 49 = .ok (.dup, 1) := by decide +kernel
theorem dX7_init_50 : decode cX7_init 50 = .ok (.aload_n 0, 1) := by decide +kernel
theorem dX7_init_51 : decode cX7_init 51 = .ok (.getfield 12, 3) := by decide +kernel
theorem dX7_init_54 : decode cX7_init 54 = .ok (.invokespecial 30, 3) := by decide +kernel
theorem dX7_init_57 : decode cX7_init 57 = .ok (.putfield 31, 3) := by decide +kernel
theorem dX7_init_60 : decode cX7_init 60 = .ok (.aload_n 0, 1) := by decide +kernel
theorem dX7_init_61 : decode cX7_init 61 = .ok (.new 35, 3) := by decide +kernel
theorem dX7_init_64 : decode cX7_init 64 = .ok (.dup, 1) := by decide +kernel
theorem dX7_init_65 : decode cX7_init 65 = .ok (.aload_n 0, 1) := by decide +kernel
theorem dX7_init_66 : decode cX7_init 66 = .ok (.getfield 12, 3) := by decide +kernel
theorem dX7_init_69 : decode cX7_init 69 = .ok (.invokespecial 37, 3) := by decide +kernel
theorem dX7_init_72 : decode cX7_init 72 = .ok (.putfield 38, 3) := by decide +kernel
theorem dX7_init_75 : decode cX7_init 75 = .ok (.aload_n 0, 1) := by decide +kernel
theorem dX7_init_76 : decode cX7_init 76 = .ok (.new 42, 3) := by decide +kernel
theorem dX7_init_79 : decode cX7_init 79 = .ok (.dup, 1) := by decide +kernel
theorem dX7_init_80 : decode cX7_init 80 = .ok (.aload_n 0, 1) := by decide +kernel
theorem dX7_init_81 : decode cX7_init 81 = .ok (.getfield 12, 3) := by decide +kernel
theorem dX7_init_84 : decode cX7_init 84 = .ok (.invokespecial 44, 3) := by decide +kernel
theorem dX7_init_87 : decode cX7_init 87 = .ok (.putfield 45, 3) := by decide +kernel
theorem dX7_init_90 : decode cX7_init 90 = .ok (.aload_n 0, 1) := by decide +kernel
theorem dX7_init_91 : decode cX7_init 91 = .ok (.iconst 4, 1) := by decide +kernel
theorem dX7_init_92 : decode cX7_init 92 = .ok (.anewarray 49, 3) := by decide +kernel
theorem dX7_init_95 : decode cX7_init 95 = .ok (.putfield 51, 3) := by decide +kernel
theorem dX7_init_98 : decode cX7_init 98 = .ok (.aload_n 0, 1) := by decide +kernel
theorem dX7_init_99 : decode cX7_init 99 = .ok (.iconst 0, 1) := by decide +kernel
theorem dX7_init_100 : decode cX7_init 100 = .ok (.putfield 55, 3) := by decide +kernel
theorem dX7_init_103 : decode cX7_init 103 = .ok (.iconst 0, 1) := by decide +kernel
theorem dX7_init_104 : decode cX7_init 104 = .ok (.istore_n 1, 1) := by decide +kernel
theorem dX7_init_105 : decode cX7_init 105 = .ok (.iload_n 1, 1) := by decide +kernel
theorem dX7_init_106 : decode cX7_init 106 = .ok (.iconst 4, 1) := by decide +kernel
theorem dX7_init_107 : decode cX7_init 107 = .ok (.if_icmp .ge 22, 3) := by decide +kernel
theorem dX7_init_110 : decode cX7_init 110 = .ok (.aload_n 0, 1) := by decide +kernel
theorem dX7_init_111 : decode cX7_init 111 = .ok (.getfield 51, 3) := by decide +kernel
theorem dX7_init_114 : decode cX7_init 114 = .ok (.iload_n 1, 1) := by decide +kernel
theorem dX7_init_115 : decode cX7_init 115 = .ok (.new 49, 3) := by decide +kernel
theorem dX7_init_118 : decode cX7_init 118 = .ok (.dup, 1) := by decide +kernel
theorem dX7_init_119 : decode cX7_init 119 = .ok (.invokespecial 59, 3) := by decide +kernel
theorem dX7_init_122 : decode cX7_init 122 = .ok (.aastore, 1) := by decide +kernel
theorem dX7_init_123 : decode cX7_init 123 = .ok (.iinc 1 1, 3) := by decide +kernel
theorem dX7_init_126 : decode cX7_init 126 = .ok (.goto (-21), 3) := by decide +kernel
theorem dX7_init_129 : decode cX7_init 129 = .ok (.return_, 1) := by decide +kernel
theorem dX7_type_0 : decode cX7_type 0 = .ok (.iload_n 1, 1) := by decide +kernel
theorem dX7_type_1 : decode cX7_type 1 = .ok (.iconst 3, 1) := by decide +kernel
theorem dX7_type_2 : decode cX7_type 2 = .ok (.invokestatic 60, 3) := by decide +kernel
theorem dX7_type_5 : decode cX7_type 5 = .ok (.ifCond .eq 13, 3) := by decide +kernel
theorem dX7_type_8 : decode cX7_type 8 = .ok (.iload_n 2, 1) := by decide +kernel
theorem dX7_type_9 : decode cX7_type 9 = .ok (.sipush 256, 3) := by decide +kernel
theorem dX7_type_12 : decode cX7_type 12 = .ok (.invokestatic 60, 3) := by decide +kernel
theorem dX7_type_15 : decode cX7_type 15 = .ok (.ifCond .ne 6, 3) := by decide +kernel
theorem dX7_type_18 : decode cX7_type 18 = .ok (.bipush (-2), 2) := by decide +kernel
theorem dX7_type_20 : decode cX7_type 20 = .ok (.ireturn, 1) := by decide +kernel
theorem dX7_type_21 : decode cX7_type 21 = .ok (.aload_n 0, 1) := by decide +kernel
theorem dX7_type_22 : decode cX7_type 22 = .ok (.iload_n 1, 1) := by decide +kernel
theorem dX7_type_23 : decode cX7_type 23 = .ok (.invokevirtual 64, 3) := by decide +kernel
theorem dX7_type_26 : decode cX7_type 26 = .ok (.astore_n 3, 1) := by decide +kernel
theorem dX7_type_27 : decode cX7_type 27 = .ok (.aload_n 3, 1) := by decide +kernel
theorem dX7_type_28 : decode cX7_type 28 = .ok (.getfield 68, 3) := by decide +kernel
theorem dX7_type_31 : decode cX7_type 31 = .ok (.bipush 40, 2) := by decide +kernel
theorem dX7_type_33 : decode cX7_type 33 = .ok (.if_icmp .lt 6, 3) := by decide +kernel
theorem dX7_type_36 : decode cX7_type 36 = .ok (.bipush (-4), 2) := by decide +kernel
theorem dX7_type_38 : decode cX7_type 38 = .ok (.ireturn, 1) := by decide +kernel
theorem dX7_type_39 : decode cX7_type 39 = .ok (.aload_n 3, 1) := by decide +kernel
theorem dX7_type_40 : decode cX7_type 40 = .ok (.iload_n 2, 1) := by decide +kernel
theorem dX7_type_41 : decode cX7_type 41 = .ok (.invokevirtual 73, 3) := by decide +kernel
theorem dX7_type_44 : decode cX7_type 44 = .ok (.aload_n 0, 1) := by decide +kernel
theorem dX7_type_45 : decode cX7_type 45 = .ok (.getfield 12, 3) := by decide +kernel
theorem dX7_type_48 : decode cX7_type 48 = .ok (.invokevirtual 77, 3) := by decide +kernel
theorem dX7_type_51 : decode cX7_type 51 = .ok (.aload_n 3, 1) := by decide +kernel
theorem dX7_type_52 : decode cX7_type 52 = .ok (.getfield 68, 3) := by decide +kernel
theorem dX7_type_55 : decode cX7_type 55 = .ok (.ireturn, 1) := by decide +kernel
theorem dX7_wipe_0 : decode cX7_wipe 0 = .ok (.iload_n 1, 1) := by decide +kernel
theorem dX7_wipe_1 : decode cX7_wipe 1 = .ok (.iconst 3, 1) := by decide +kernel
theorem dX7_wipe_2 : decode cX7_wipe 2 = .ok (.invokestatic 60, 3) := by decide +kernel
theorem dX7_wipe_5 : decode cX7_wipe 5 = .ok (.ifCond .ne 6, 3) := by decide +kernel
theorem dX7_wipe_8 : decode cX7_wipe 8 = .ok (.bipush (-2), 2) := by decide +kernel
theorem dX7_wipe_10 : decode cX7_wipe 10 = .ok (.ireturn, 1) := by decide +kernel
theorem dX7_wipe_11 : decode cX7_wipe 11 = .ok (.aload_n 0, 1) := by decide +kernel
theorem dX7_wipe_12 : decode cX7_wipe 12 = .ok (.iload_n 1, 1) := by decide +kernel
theorem dX7_wipe_13 : decode cX7_wipe 13 = .ok (.invokevirtual 64, 3) := by decide +kernel
theorem dX7_wipe_16 : decode cX7_wipe 16 = .ok (.astore_n 2, 1) := by decide +kernel
theorem dX7_wipe_17 : decode cX7_wipe 17 = .ok (.aload_n 2, 1) := by decide +kernel
theorem dX7_wipe_18 : decode cX7_wipe 18 = .ok (.getfield 68, 3) := by decide +kernel
theorem dX7_wipe_21 : decode cX7_wipe 21 = .ok (.istore_n 3, 1) := by decide +kernel
theorem dX7_wipe_22 : decode cX7_wipe 22 = .ok (.aload_n 2, 1) := by decide +kernel
theorem dX7_wipe_23 : decode cX7_wipe 23 = .ok (.iconst 0, 1) := by decide +kernel
theorem dX7_wipe_24 : decode cX7_wipe 24 = .ok (.putfield 68, 3) := by decide +kernel
theorem dX7_wipe_27 : decode cX7_wipe 27 = .ok (.aload_n 0, 1) := by decide +kernel
theorem dX7_wipe_28 : decode cX7_wipe 28 = .ok (.getfield 12, 3) := by decide +kernel
theorem dX7_wipe_31 : decode cX7_wipe 31 = .ok (.invokevirtual 77, 3) := by decide +kernel
theorem dX7_wipe_34 : decode cX7_wipe 34 = .ok (.iload_n 3, 1) := by decide +kernel
theorem dX7_wipe_35 : decode cX7_wipe 35 = .ok (.ireturn, 1) := by decide +kernel
theorem dX7_fault_0 : decode cX7_fault 0 = .ok (.aload_n 0, 1) := by decide +kernel
theorem dX7_fault_1 : decode cX7_fault 1 = .ok (.getfield 12, 3) := by decide +kernel
theorem dX7_fault_4 : decode cX7_fault 4 = .ok (.getfield 80, 3) := by decide +kernel
theorem dX7_fault_7 : decode cX7_fault 7 = .ok (.ireturn, 1) := by decide +kernel
theorem dX7_path_0 : decode cX7_path 0 = .ok (.iload_n 1, 1) := by decide +kernel
theorem dX7_path_1 : decode cX7_path 1 = .ok (.aload_n 0, 1) := by decide +kernel
theorem dX7_path_2 : decode cX7_path 2 = .ok (.getfield 12, 3) := by decide +kernel
theorem dX7_path_5 : decode cX7_path 5 = .ok (.getfield 83, 3) := by decide +kernel
theorem dX7_path_8 : decode cX7_path 8 = .ok (.invokestatic 60, 3) := by decide +kernel
theorem dX7_path_11 : decode cX7_path 11 = .ok (.ifCond .eq 11, 3) := by decide +kernel
theorem dX7_path_14 : decode cX7_path 14 = .ok (.iload_n 2, 1) := by decide +kernel
theorem dX7_path_15 : decode cX7_path 15 = .ok (.iconst 3, 1) := by decide +kernel
theorem dX7_path_16 : decode cX7_path 16 = .ok (.invokestatic 60, 3) := by decide +kernel
theorem dX7_path_19 : decode cX7_path 19 = .ok (.ifCond .ne 6, 3) := by decide +kernel
theorem dX7_path_22 : decode cX7_path 22 = .ok (.bipush (-2), 2) := by decide +kernel
theorem dX7_path_24 : decode cX7_path 24 = .ok (.ireturn, 1) := by decide +kernel
theorem dX7_path_25 : decode cX7_path 25 = .ok (.aload_n 0, 1) := by decide +kernel
theorem dX7_path_26 : decode cX7_path 26 = .ok (.getfield 12, 3) := by decide +kernel
theorem dX7_path_29 : decode cX7_path 29 = .ok (.iload_n 1, 1) := by decide +kernel
theorem dX7_path_30 : decode cX7_path 30 = .ok (.iload_n 2, 1) := by decide +kernel
theorem dX7_path_31 : decode cX7_path 31 = .ok (.invokevirtual 86, 3) := by decide +kernel
theorem dX7_path_34 : decode cX7_path 34 = .ok (.ireturn, 1) := by decide +kernel
theorem dX7_start_0 : decode cX7_start 0 = .ok (.iload_n 1, 1) := by decide +kernel
theorem dX7_start_1 : decode cX7_start 1 = .ok (.iconst 2, 1) := by decide +kernel
theorem dX7_start_2 : decode cX7_start 2 = .ok (.invokestatic 60, 3) := by decide +kernel
theorem dX7_start_5 : decode cX7_start 5 = .ok (.ifCond .eq 12, 3) := by decide +kernel
theorem dX7_start_8 : decode cX7_start 8 = .ok (.iload_n 2, 1) := by decide +kernel
theorem dX7_start_9 : decode cX7_start 9 = .ok (.bipush 8, 2) := by decide +kernel
theorem dX7_start_11 : decode cX7_start 11 = .ok (.invokestatic 60, 3) := by decide +kernel
theorem dX7_start_14 : decode cX7_start 14 = .ok (.ifCond .ne 6, 3) := by decide +kernel
theorem dX7_start_17 : decode cX7_start 17 = .ok (.bipush (-2), 2) := by decide +kernel
theorem dX7_start_19 : decode cX7_start 19 = .ok (.ireturn, 1) := by decide +kernel
theorem dX7_start_20 : decode cX7_start 20 = .ok (.aload_n 0, 1) := by decide +kernel
theorem dX7_start_21 : decode cX7_start 21 = .ok (.iload_n 1, 1) := by decide +kernel
theorem dX7_start_22 : decode cX7_start 22 = .ok (.invokevirtual 90, 3) := by decide +kernel
theorem dX7_start_25 : decode cX7_start 25 = .ok (.astore_n 3, 1) := by decide +kernel
theorem dX7_start_26 : decode cX7_start 26 = .ok (.aload_n 3, 1) := by decide +kernel
theorem dX7_start_27 : decode cX7_start 27 = .ok (.getfield 94, 3) := by decide +kernel
theorem dX7_start_30 : decode cX7_start 30 = .ok (.istore 4, 2) := by decide +kernel
theorem dX7_start_32 : decode cX7_start 32 = .ok (.aload_n 3, 1) := by decide +kernel
theorem dX7_start_33 : decode cX7_start 33 = .ok (.iload_n 2, 1) := by decide +kernel
theorem dX7_start_34 : decode cX7_start 34 = .ok (.putfield 94, 3) := by decide +kernel
theorem dX7_start_37 : decode cX7_start 37 = .ok (.iload 4, 2) := by decide +kernel
theorem dX7_start_39 : decode cX7_start 39 = .ok (.ireturn, 1) := by decide +kernel
theorem dX7_set_0 : decode cX7_set 0 = .ok (.iload_n 1, 1) := by decide +kernel
theorem dX7_set_1 : decode cX7_set 1 = .ok (.ifCond .eq 8, 3) := by decide +kernel
theorem dX7_set_4 : decode cX7_set 4 = .ok (.iload_n 1, 1) := by decide +kernel
theorem dX7_set_5 : decode cX7_set 5 = .ok (.iconst 1, 1) := by decide +kernel
theorem dX7_set_6 : decode cX7_set 6 = .ok (.if_icmp .ne 10, 3) := by decide +kernel
theorem dX7_set_9 : decode cX7_set 9 = .ok (.aload_n 0, 1) := by decide +kernel
theorem dX7_set_10 : decode cX7_set 10 = .ok (.iload_n 1, 1) := by decide +kernel
theorem dX7_set_11 : decode cX7_set 11 = .ok (.iload_n 2, 1) := by decide +kernel
theorem dX7_set_12 : decode cX7_set 12 = .ok (.invokevirtual 97, 3) := by decide +kernel
theorem dX7_set_15 : decode cX7_set 15 = .ok (.ireturn, 1) := by decide +kernel
theorem dX7_set_16 : decode cX7_set 16 = .ok (.iload_n 1, 1) := by decide +kernel
theorem dX7_set_17 : decode cX7_set 17 = .ok (.iconst 2, 1) := by decide +kernel
theorem dX7_set_18 : decode cX7_set 18 = .ok (.if_icmp .ne 14, 3) := by decide +kernel
theorem dX7_set_21 : decode cX7_set 21 = .ok (.iload_n 2, 1) := by decide +kernel
theorem dX7_set_22 : decode cX7_set 22 = .ok (.iconst 1, 1) := by decide +kernel
theorem dX7_set_23 : decode cX7_set 23 = .ok (.if_icmp .lt 9, 3) := by decide +kernel
theorem dX7_set_26 : decode cX7_set 26 = .ok (.iload_n 2, 1) := by decide +kernel
theorem dX7_set_27 : decode cX7_set 27 = .ok (.bipush 18, 2) := by decide +kernel
theorem dX7_set_29 : decode cX7_set 29 = .ok (.if_icmp .le 6, 3) := by decide +kernel
theorem dX7_set_32 : decode cX7_set 32 = .ok (.bipush (-2), 2) := by decide +kernel
theorem dX7_set_34 : decode cX7_set 34 = .ok (.ireturn, 1) := by decide +kernel
theorem dX7_set_35 : decode cX7_set 35 = .ok (.aload_n 0, 1) := by decide +kernel
theorem dX7_set_36 : decode cX7_set 36 = .ok (.getfield 12, 3) := by decide +kernel
theorem dX7_set_39 : decode cX7_set 39 = .ok (.getfield 100, 3) := by decide +kernel
theorem dX7_set_42 : decode cX7_set 42 = .ok (.istore_n 3, 1) := by decide +kernel
theorem dX7_set_43 : decode cX7_set 43 = .ok (.aload_n 0, 1) := by decide +kernel
theorem dX7_set_44 : decode cX7_set 44 = .ok (.getfield 12, 3) := by decide +kernel
theorem dX7_set_47 : decode cX7_set 47 = .ok (.iload_n 2, 1) := by decide +kernel
theorem dX7_set_48 : decode cX7_set 48 = .ok (.putfield 100, 3) := by decide +kernel
theorem dX7_set_51 : decode cX7_set 51 = .ok (.iload_n 3, 1) := by decide +kernel
theorem dX7_set_52 : decode cX7_set 52 = .ok (.ireturn, 1) := by decide +kernel
theorem dX7_setHeavy_0 : decode cX7_setHeavy 0 = .ok (.iload_n 1, 1) := by decide +kernel
theorem dX7_setHeavy_1 : decode cX7_setHeavy 1 = .ok (.iconst 2, 1) := by decide +kernel
theorem dX7_setHeavy_2 : decode cX7_setHeavy 2 = .ok (.invokestatic 60, 3) := by decide +kernel
theorem dX7_setHeavy_5 : decode cX7_setHeavy 5 = .ok (.ifCond .eq 13, 3) := by decide +kernel
theorem dX7_setHeavy_8 : decode cX7_setHeavy 8 = .ok (.iload_n 2, 1) := by decide +kernel
theorem dX7_setHeavy_9 : decode cX7_setHeavy 9 = .ok (.ifCond .lt 9, 3) := by decide +kernel
theorem dX7_setHeavy_12 : decode cX7_setHeavy 12 = .ok (.iload_n 2, 1) := by decide +kernel
theorem dX7_setHeavy_13 : decode cX7_setHeavy 13 = .ok (.bipush 9, 2) := by decide +kernel
theorem dX7_setHeavy_15 : decode cX7_setHeavy 15 = .ok (.if_icmp .le 6, 3) := by decide +kernel
theorem dX7_setHeavy_18 : decode cX7_setHeavy 18 = .ok (.bipush (-2), 2) := by decide +kernel
theorem dX7_setHeavy_20 : decode cX7_setHeavy 20 = .ok (.ireturn, 1) := by decide +kernel
theorem dX7_setHeavy_21 : decode cX7_setHeavy 21 = .ok (.aload_n 0, 1) := by decide +kernel
theorem dX7_setHeavy_22 : decode cX7_setHeavy 22 = .ok (.getfield 12, 3) := by decide +kernel
theorem dX7_setHeavy_25 : decode cX7_setHeavy 25 = .ok (.getfield 103, 3) := by decide +kernel
theorem dX7_setHeavy_28 : decode cX7_setHeavy 28 = .ok (.iload_n 1, 1) := by decide +kernel
theorem dX7_setHeavy_29 : decode cX7_setHeavy 29 = .ok (.iaload, 1) := by decide +kernel
theorem dX7_setHeavy_30 : decode cX7_setHeavy 30 = .ok (.istore_n 3, 1) := by decide +kernel
theorem dX7_setHeavy_31 : decode cX7_setHeavy 31 = .ok (.aload_n 0, 1) := by decide +kernel
theorem dX7_setHeavy_32 : decode cX7_setHeavy 32 = .ok (.getfield 12, 3) := by decide +kernel
theorem dX7_setHeavy_35 : decode cX7_setHeavy 35 = .ok (.getfield 103, 3) := by decide +kernel
theorem dX7_setHeavy_38 : decode cX7_setHeavy 38 = .ok (.iload_n 1, 1) := by decide +kernel
theorem dX7_setHeavy_39 : decode cX7_setHeavy 39 = .ok (.iload_n 2, 1) := by decide +kernel
theorem dX7_setHeavy_40 : decode cX7_setHeavy 40 = .ok (.iastore, 1) := by decide +kernel
theorem dX7_setHeavy_41 : decode cX7_setHeavy 41 = .ok (.iload_n 3, 1) := by decide +kernel
theorem dX7_setHeavy_42 : decode cX7_setHeavy 42 = .ok (.ireturn, 1) := by decide +kernel
theorem dX7_thistle_0 : decode cX7_thistle 0 = .ok (.iload_n 1, 1) := by decide +kernel
theorem dX7_thistle_1 : decode cX7_thistle 1 = .ok (.bipush 8, 2) := by decide +kernel
theorem dX7_thistle_3 : decode cX7_thistle 3 = .ok (.invokestatic 60, 3) := by decide +kernel
theorem dX7_thistle_6 : decode cX7_thistle 6 = .ok (.ifCond .eq 13, 3) := by decide +kernel
theorem dX7_thistle_9 : decode cX7_thistle 9 = .ok (.iload_n 2, 1) := by decide +kernel
theorem dX7_thistle_10 : decode cX7_thistle 10 = .ok (.ifCond .lt 9, 3) := by decide +kernel
theorem dX7_thistle_13 : decode cX7_thistle 13 = .ok (.iload_n 2, 1) := by decide +kernel
theorem dX7_thistle_14 : decode cX7_thistle 14 = .ok (.bipush 99, 2) := by decide +kernel
theorem dX7_thistle_16 : decode cX7_thistle 16 = .ok (.if_icmp .le 6, 3) := by decide +kernel
theorem dX7_thistle_19 : decode cX7_thistle 19 = .ok (.bipush (-2), 2) := by decide +kernel
theorem dX7_thistle_21 : decode cX7_thistle 21 = .ok (.ireturn, 1) := by decide +kernel
theorem dX7_thistle_22 : decode cX7_thistle 22 = .ok (.aload_n 0, 1) := by decide +kernel
theorem dX7_thistle_23 : decode cX7_thistle 23 = .ok (.getfield 12, 3) := by decide +kernel
theorem dX7_thistle_26 : decode cX7_thistle 26 = .ok (.getfield 107, 3) := by decide +kernel
theorem dX7_thistle_29 : decode cX7_thistle 29 = .ok (.iload_n 1, 1) := by decide +kernel
theorem dX7_thistle_30 : decode cX7_thistle 30 = .ok (.iaload, 1) := by decide +kernel
theorem dX7_thistle_31 : decode cX7_thistle 31 = .ok (.istore_n 3, 1) := by decide +kernel
theorem dX7_thistle_32 : decode cX7_thistle 32 = .ok (.aload_n 0, 1) := by decide +kernel
theorem dX7_thistle_33 : decode cX7_thistle 33 = .ok (.getfield 12, 3) := by decide +kernel
theorem dX7_thistle_36 : decode cX7_thistle 36 = .ok (.getfield 107, 3) := by decide +kernel
theorem dX7_thistle_39 : decode cX7_thistle 39 = .ok (.iload_n 1, 1) := by decide +kernel
theorem dX7_thistle_40 : decode cX7_thistle 40 = .ok (.iload_n 2, 1) := by decide +kernel
theorem dX7_thistle_41 : decode cX7_thistle 41 = .ok (.iastore, 1) := by decide +kernel
theorem dX7_thistle_42 : decode cX7_thistle 42 = .ok (.iload_n 3, 1) := by decide +kernel
theorem dX7_thistle_43 : decode cX7_thistle 43 = .ok (.ireturn, 1) := by decide +kernel
theorem dX7_read_0 : decode cX7_read 0 = .ok (.iload_n 1, 1) := by decide +kernel
theorem dX7_read_1 : decode cX7_read 1 = .ok (.iconst 4, 1) := by decide +kernel
theorem dX7_read_2 : decode cX7_read 2 = .ok (.invokestatic 60, 3) := by decide +kernel
theorem dX7_read_5 : decode cX7_read 5 = .ok (.ifCond .eq 11, 3) := by decide +kernel
theorem dX7_read_8 : decode cX7_read 8 = .ok (.iload_n 2, 1) := by decide +kernel
theorem dX7_read_9 : decode cX7_read 9 = .ok (.iconst 2, 1) := by decide +kernel
theorem dX7_read_10 : decode cX7_read 10 = .ok (.invokestatic 60, 3) := by decide +kernel
theorem dX7_read_13 : decode cX7_read 13 = .ok (.ifCond .ne 6, 3) := by decide +kernel
theorem dX7_read_16 : decode cX7_read 16 = .ok (.bipush (-2), 2) := by decide +kernel
theorem dX7_read_18 : decode cX7_read 18 = .ok (.ireturn, 1) := by decide +kernel
theorem dX7_read_19 : decode cX7_read 19 = .ok (.aload_n 0, 1) := by decide +kernel
theorem dX7_read_20 : decode cX7_read 20 = .ok (.getfield 51, 3) := by decide +kernel
theorem dX7_read_23 : decode cX7_read 23 = .ok (.iload_n 1, 1) := by decide +kernel
theorem dX7_read_24 : decode cX7_read 24 = .ok (.aaload, 1) := by decide +kernel
theorem dX7_read_25 : decode cX7_read 25 = .ok (.astore_n 3, 1) := by decide +kernel
theorem dX7_read_26 : decode cX7_read 26 = .ok (.aload_n 3, 1) := by decide +kernel
theorem dX7_read_27 : decode cX7_read 27 = .ok (.getfield 110, 3) := by decide +kernel
theorem dX7_read_30 : decode cX7_read 30 = .ok (.iconst (-1), 1) := by decide +kernel
theorem dX7_read_31 : decode cX7_read 31 = .ok (.if_icmp .ne 9, 3) := by decide +kernel
theorem dX7_read_34 : decode cX7_read 34 = .ok (.aload_n 0, 1) := by decide +kernel
theorem dX7_read_35 : decode cX7_read 35 = .ok (.iconst 1, 1) := by decide +kernel
theorem dX7_read_36 : decode cX7_read 36 = .ok (.invokevirtual 113, 3) := by decide +kernel
theorem dX7_read_39 : decode cX7_read 39 = .ok (.ireturn, 1) := by decide +kernel
theorem dX7_read_40 : decode cX7_read 40 = .ok (.aload_n 0, 1) := by decide +kernel
theorem dX7_read_41 : decode cX7_read 41 = .ok (.iload_n 2, 1) := by decide +kernel
theorem dX7_read_42 : decode cX7_read 42 = .ok (.invokevirtual 90, 3) := by decide +kernel
theorem dX7_read_45 : decode cX7_read 45 = .ok (.getfield 117, 3) := by decide +kernel
theorem dX7_read_48 : decode cX7_read 48 = .ok (.astore 4, 2) := by decide +kernel
theorem dX7_read_50 : decode cX7_read 50 = .ok (.aload 4, 2) := by decide +kernel
theorem dX7_read_52 : decode cX7_read 52 = .ok (.iconst 0, 1) := by decide +kernel
theorem dX7_read_53 : decode cX7_read 53 = .ok (.putfield 68, 3) := by decide +kernel
theorem dX7_read_56 : decode cX7_read 56 = .ok (.iconst 0, 1) := by decide +kernel
theorem dX7_read_57 : decode cX7_read 57 = .ok (.istore 5, 2) := by decide +kernel
theorem dX7_read_59 : decode cX7_read 59 = .ok (.iload 5, 2) := by decide +kernel
theorem dX7_read_61 : decode cX7_read 61 = .ok (.aload_n 3, 1) := by decide +kernel
theorem dX7_read_62 : decode cX7_read 62 = .ok (.getfield 121, 3) := by decide +kernel
theorem dX7_read_65 : decode cX7_read 65 = .ok (.if_icmp .ge 48, 3) := by decide +kernel
theorem dX7_read_68 : decode cX7_read 68 = .ok (.iload 5, 2) := by decide +kernel
theorem dX7_read_70 : decode cX7_read 70 = .ok (.bipush 40, 2) := by decide +kernel
theorem dX7_read_72 : decode cX7_read 72 = .ok (.if_icmp .ge 41, 3) := by decide +kernel
theorem dX7_read_75 : decode cX7_read 75 = .ok (.aload_n 3, 1) := by decide +kernel
theorem dX7_read_76 : decode cX7_read 76 = .ok (.getfield 122, 3) := by decide +kernel
theorem dX7_read_79 : decode cX7_read 79 = .ok (.iload 5, 2) := by decide +kernel
theorem dX7_read_81 : decode cX7_read 81 = .ok (.iaload, 1) := by decide +kernel
theorem dX7_read_82 : decode cX7_read 82 = .ok (.istore 6, 2) := by decide +kernel
theorem dX7_read_84 : decode cX7_read 84 = .ok (.iload 6, 2) := by decide +kernel
theorem dX7_read_86 : decode cX7_read 86 = .ok (.bipush 16, 2) := by decide +kernel
theorem dX7_read_88 : decode cX7_read 88 = .ok (.invokestatic 60, 3) := by decide +kernel
theorem dX7_read_91 : decode cX7_read 91 = .ok (.ifCond .ne 6, 3) := by decide +kernel
theorem dX7_read_94 : decode cX7_read 94 = .ok (.goto 19, 3) := by decide +kernel
theorem dX7_read_97 : decode cX7_read 97 = .ok (.aload 4, 2) := by decide +kernel
theorem dX7_read_99 : decode cX7_read 99 = .ok (.iload 6, 2) := by decide +kernel
theorem dX7_read_101 : decode cX7_read 101 = .ok (.invokestatic 125, 3) := by decide +kernel
theorem dX7_read_104 : decode cX7_read 104 = .ok (.invokevirtual 73, 3) := by decide +kernel
theorem dX7_read_107 : decode cX7_read 107 = .ok (.iinc 5 1, 3) := by decide +kernel
theorem dX7_read_110 : decode cX7_read 110 = .ok (.goto (-51), 3) := by decide +kernel
theorem dX7_read_113 : decode cX7_read 113 = .ok (.aload 4, 2) := by decide +kernel
theorem dX7_read_115 : decode cX7_read 115 = .ok (.getfield 68, 3) := by decide +kernel
theorem dX7_read_118 : decode cX7_read 118 = .ok (.ireturn, 1) := by decide +kernel
theorem dX7_undo_0 : decode cX7_undo 0 = .ok (.iload_n 1, 1) := by decide +kernel
theorem dX7_undo_1 : decode cX7_undo 1 = .ok (.iconst 2, 1) := by decide +kernel
theorem dX7_undo_2 : decode cX7_undo 2 = .ok (.invokestatic 60, 3) := by decide +kernel
theorem dX7_undo_5 : decode cX7_undo 5 = .ok (.ifCond .ne 6, 3) := by decide +kernel
theorem dX7_undo_8 : decode cX7_undo 8 = .ok (.bipush (-2), 2) := by decide +kernel
theorem dX7_undo_10 : decode cX7_undo 10 = .ok (.ireturn, 1) := by decide +kernel
theorem dX7_undo_11 : decode cX7_undo 11 = .ok (.aload_n 0, 1) := by decide +kernel
theorem dX7_undo_12 : decode cX7_undo 12 = .ok (.iload_n 1, 1) := by decide +kernel
theorem dX7_undo_13 : decode cX7_undo 13 = .ok (.invokevirtual 90, 3) := by decide +kernel
theorem dX7_undo_16 : decode cX7_undo 16 = .ok (.getfield 117, 3) := by decide +kernel
theorem dX7_undo_19 : decode cX7_undo 19 = .ok (.astore_n 2, 1) := by decide +kernel
theorem dX7_undo_20 : decode cX7_undo 20 = .ok (.aload_n 2, 1) := by decide +kernel
theorem dX7_undo_21 : decode cX7_undo 21 = .ok (.getfield 68, 3) := by decide +kernel
theorem dX7_undo_24 : decode cX7_undo 24 = .ok (.ifCond .gt 6, 3) := by decide +kernel
theorem dX7_undo_27 : decode cX7_undo 27 = .ok (.bipush (-3), 2) := by decide +kernel
theorem dX7_undo_29 : decode cX7_undo 29 = .ok (.ireturn, 1) := by decide +kernel
theorem dX7_undo_30 : decode cX7_undo 30 = .ok (.aload_n 2, 1) := by decide +kernel
theorem dX7_undo_31 : decode cX7_undo 31 = .ok (.dup, 1) := by decide +kernel
theorem dX7_undo_32 : decode cX7_undo 32 = .ok (.getfield 68, 3) := by decide +kernel
theorem dX7_undo_35 : decode cX7_undo 35 = .ok (.iconst 1, 1) := by decide +kernel
theorem dX7_undo_36 : decode cX7_undo 36 = .ok (.isub, 1) := by decide +kernel
theorem dX7_undo_37 : decode cX7_undo 37 = .ok (.putfield 68, 3) := by decide +kernel
theorem dX7_undo_40 : decode cX7_undo 40 = .ok (.aload_n 2, 1) := by decide +kernel
theorem dX7_undo_41 : decode cX7_undo 41 = .ok (.getfield 68, 3) := by decide +kernel
theorem dX7_undo_44 : decode cX7_undo 44 = .ok (.ireturn, 1) := by decide +kernel
theorem dX7_judged_0 : decode cX7_judged 0 = .ok (.iload_n 1, 1) := by decide +kernel
theorem dX7_judged_1 : decode cX7_judged 1 = .ok (.iconst 2, 1) := by decide +kernel
theorem dX7_judged_2 : decode cX7_judged 2 = .ok (.invokestatic 60, 3) := by decide +kernel
theorem dX7_judged_5 : decode cX7_judged 5 = .ok (.ifCond .ne 6, 3) := by decide +kernel
theorem dX7_judged_8 : decode cX7_judged 8 = .ok (.bipush (-2), 2) := by decide +kernel
theorem dX7_judged_10 : decode cX7_judged 10 = .ok (.ireturn, 1) := by decide +kernel
theorem dX7_judged_11 : decode cX7_judged 11 = .ok (.aload_n 0, 1) := by decide +kernel
theorem dX7_judged_12 : decode cX7_judged 12 = .ok (.iload_n 1, 1) := by decide +kernel
theorem dX7_judged_13 : decode cX7_judged 13 = .ok (.invokevirtual 128, 3) := by decide +kernel
theorem dX7_judged_16 : decode cX7_judged 16 = .ok (.astore_n 2, 1) := by decide +kernel
theorem dX7_judged_17 : decode cX7_judged 17 = .ok (.aload_n 2, 1) := by decide +kernel
theorem dX7_judged_18 : decode cX7_judged 18 = .ok (.getfield 131, 3) := by decide +kernel
theorem dX7_judged_21 : decode cX7_judged 21 = .ok (.aload_n 2, 1) := by decide +kernel
theorem dX7_judged_22 : decode cX7_judged 22 = .ok (.getfield 117, 3) := by decide +kernel
theorem dX7_judged_25 : decode cX7_judged 25 = .ok (.getfield 68, 3) := by decide +kernel
theorem dX7_judged_28 : decode cX7_judged 28 = .ok (.if_icmp .ge 10, 3) := by decide +kernel
theorem dX7_judged_31 : decode cX7_judged 31 = .ok (.aload_n 2, 1) := by decide +kernel
theorem dX7_judged_32 : decode cX7_judged 32 = .ok (.getfield 131, 3) := by decide +kernel
theorem dX7_judged_35 : decode cX7_judged 35 = .ok (.goto 4, 3) := by decide +kernel
theorem dX7_judged_38 : decode cX7_judged 38 = .ok (.iconst (-1), 1) := by decide +kernel
theorem dX7_judged_39 : decode cX7_judged 39 = .ok (.ireturn, 1) := by decide +kernel
theorem dX7_state_0 : decode cX7_state 0 = .ok (.iload_n 1, 1) := by decide +kernel
theorem dX7_state_1 : decode cX7_state 1 = .ok (.iconst 2, 1) := by decide +kernel
theorem dX7_state_2 : decode cX7_state 2 = .ok (.invokestatic 60, 3) := by decide +kernel
theorem dX7_state_5 : decode cX7_state 5 = .ok (.ifCond .eq 16, 3) := by decide +kernel
theorem dX7_state_8 : decode cX7_state 8 = .ok (.iload_n 2, 1) := by decide +kernel
theorem dX7_state_9 : decode cX7_state 9 = .ok (.ifCond .lt 12, 3) := by decide +kernel
theorem dX7_state_12 : decode cX7_state 12 = .ok (.iload_n 3, 1) := by decide +kernel
theorem dX7_state_13 : decode cX7_state 13 = .ok (.bipush 8, 2) := by decide +kernel
theorem dX7_state_15 : decode cX7_state 15 = .ok (.invokestatic 60, 3) := by decide +kernel
theorem dX7_state_18 : decode cX7_state 18 = .ok (.ifCond .ne 6, 3) := by decide +kernel
theorem dX7_state_21 : decode cX7_state 21 = .ok (.bipush (-2), 2) := by decide +kernel
theorem dX7_state_23 : decode cX7_state 23 = .ok (.ireturn, 1) := by decide +kernel
theorem dX7_state_24 : decode cX7_state 24 = .ok (.aload_n 0, 1) := by decide +kernel
theorem dX7_state_25 : decode cX7_state 25 = .ok (.iload_n 1, 1) := by decide +kernel
theorem dX7_state_26 : decode cX7_state 26 = .ok (.invokevirtual 90, 3) := by decide +kernel
theorem dX7_state_29 : decode cX7_state 29 = .ok (.astore 4, 2) := by decide +kernel
theorem dX7_state_31 : decode cX7_state 31 = .ok (.aload 4, 2) := by decide +kernel
theorem dX7_state_33 : decode cX7_state 33 = .ok (.iload_n 2, 1) := by decide +kernel
theorem dX7_state_34 : decode cX7_state 34 = .ok (.invokevirtual 134, 3) := by decide +kernel
theorem dX7_state_37 : decode cX7_state 37 = .ok (.aload 4, 2) := by decide +kernel
theorem dX7_state_39 : decode cX7_state 39 = .ok (.getfield 131, 3) := by decide +kernel
theorem dX7_state_42 : decode cX7_state 42 = .ok (.iload_n 2, 1) := by decide +kernel
theorem dX7_state_43 : decode cX7_state 43 = .ok (.if_icmp .ge 8, 3) := by decide +kernel
theorem dX7_state_46 : decode cX7_state 46 = .ok (.bipush (-2), 2) := by decide +kernel
theorem dX7_state_48 : decode cX7_state 48 = .ok (.goto 9, 3) := by decide +kernel
theorem dX7_state_51 : decode cX7_state 51 = .ok (.aload 4, 2) := by decide +kernel
theorem dX7_state_53 : decode cX7_state 53 = .ok (.iload_n 3, 1) := by decide +kernel
theorem dX7_state_54 : decode cX7_state 54 = .ok (.invokevirtual 137, 3) := by decide +kernel
theorem dX7_state_57 : decode cX7_state 57 = .ok (.ireturn, 1) := by decide +kernel
theorem dX7_rope_0 : decode cX7_rope 0 = .ok (.iload_n 1, 1) := by decide +kernel
theorem dX7_rope_1 : decode cX7_rope 1 = .ok (.iconst 2, 1) := by decide +kernel
theorem dX7_rope_2 : decode cX7_rope 2 = .ok (.invokestatic 60, 3) := by decide +kernel
theorem dX7_rope_5 : decode cX7_rope 5 = .ok (.ifCond .eq 11, 3) := by decide +kernel
theorem dX7_rope_8 : decode cX7_rope 8 = .ok (.iload_n 2, 1) := by decide +kernel
theorem dX7_rope_9 : decode cX7_rope 9 = .ok (.ifCond .lt 7, 3) := by decide +kernel
theorem dX7_rope_12 : decode cX7_rope 12 = .ok (.iload_n 3, 1) := by decide +kernel
theorem dX7_rope_13 : decode cX7_rope 13 = .ok (.ifCond .ge 6, 3) := by decide +kernel
theorem dX7_rope_16 : decode cX7_rope 16 = .ok (.bipush (-2), 2) := by decide +kernel
theorem dX7_rope_18 : decode cX7_rope 18 = .ok (.ireturn, 1) := by decide +kernel
theorem dX7_rope_19 : decode cX7_rope 19 = .ok (.aload_n 0, 1) := by decide +kernel
theorem dX7_rope_20 : decode cX7_rope 20 = .ok (.iload_n 1, 1) := by decide +kernel
theorem dX7_rope_21 : decode cX7_rope 21 = .ok (.invokevirtual 90, 3) := by decide +kernel
theorem dX7_rope_24 : decode cX7_rope 24 = .ok (.astore 4, 2) := by decide +kernel
theorem dX7_rope_26 : decode cX7_rope 26 = .ok (.aload 4, 2) := by decide +kernel
theorem dX7_rope_28 : decode cX7_rope 28 = .ok (.iload_n 2, 1) := by decide +kernel
theorem dX7_rope_29 : decode cX7_rope 29 = .ok (.invokevirtual 134, 3) := by decide +kernel
theorem dX7_rope_32 : decode cX7_rope 32 = .ok (.aload 4, 2) := by decide +kernel
theorem dX7_rope_34 : decode cX7_rope 34 = .ok (.getfield 131, 3) := by decide +kernel
theorem dX7_rope_37 : decode cX7_rope 37 = .ok (.iload_n 2, 1) := by decide +kernel
theorem dX7_rope_38 : decode cX7_rope 38 = .ok (.if_icmp .ge 8, 3) := by decide +kernel
theorem dX7_rope_41 : decode cX7_rope 41 = .ok (.bipush (-2), 2) := by decide +kernel
theorem dX7_rope_43 : decode cX7_rope 43 = .ok (.goto 12, 3) := by decide +kernel
theorem dX7_rope_46 : decode cX7_rope 46 = .ok (.aload 4, 2) := by decide +kernel
theorem dX7_rope_48 : decode cX7_rope 48 = .ok (.getfield 140, 3) := by decide +kernel
theorem dX7_rope_51 : decode cX7_rope 51 = .ok (.iload_n 3, 1) := by decide +kernel
theorem dX7_rope_52 : decode cX7_rope 52 = .ok (.invokevirtual 143, 3) := by decide +kernel
theorem dX7_rope_55 : decode cX7_rope 55 = .ok (.ireturn, 1) := by decide +kernel
theorem dX7_needs_0 : decode cX7_needs 0 = .ok (.iload_n 1, 1) := by decide +kernel
theorem dX7_needs_1 : decode cX7_needs 1 = .ok (.iconst 2, 1) := by decide +kernel
theorem dX7_needs_2 : decode cX7_needs 2 = .ok (.invokestatic 60, 3) := by decide +kernel
theorem dX7_needs_5 : decode cX7_needs 5 = .ok (.ifCond .eq 14, 3) := by decide +kernel
theorem dX7_needs_8 : decode cX7_needs 8 = .ok (.aload_n 0, 1) := by decide +kernel
theorem dX7_needs_9 : decode cX7_needs 9 = .ok (.iload_n 1, 1) := by decide +kernel
theorem dX7_needs_10 : decode cX7_needs 10 = .ok (.invokevirtual 90, 3) := by decide +kernel
theorem dX7_needs_13 : decode cX7_needs 13 = .ok (.invokevirtual 146, 3) := by decide +kernel
theorem dX7_needs_16 : decode cX7_needs 16 = .ok (.goto 5, 3) := by decide +kernel
theorem dX7_needs_19 : decode cX7_needs 19 = .ok (.bipush (-2), 2) := by decide +kernel
theorem dX7_needs_21 : decode cX7_needs 21 = .ok (.ireturn, 1) := by decide +kernel
theorem dX7_soon_0 : decode cX7_soon 0 = .ok (.iload_n 1, 1) := by decide +kernel
theorem dX7_soon_1 : decode cX7_soon 1 = .ok (.iconst 2, 1) := by decide +kernel
theorem dX7_soon_2 : decode cX7_soon 2 = .ok (.invokestatic 60, 3) := by decide +kernel
theorem dX7_soon_5 : decode cX7_soon 5 = .ok (.ifCond .eq 21, 3) := by decide +kernel
theorem dX7_soon_8 : decode cX7_soon 8 = .ok (.iload_n 2, 1) := by decide +kernel
theorem dX7_soon_9 : decode cX7_soon 9 = .ok (.bipush 8, 2) := by decide +kernel
theorem dX7_soon_11 : decode cX7_soon 11 = .ok (.invokestatic 60, 3) := by decide +kernel
theorem dX7_soon_14 : decode cX7_soon 14 = .ok (.ifCond .eq 12, 3) := by decide +kernel
theorem dX7_soon_17 : decode cX7_soon 17 = .ok (.iload_n 3, 1) := by decide +kernel
theorem dX7_soon_18 : decode cX7_soon 18 = .ok (.bipush 8, 2) := by decide +kernel
theorem dX7_soon_20 : decode cX7_soon 20 = .ok (.invokestatic 60, 3) := by decide +kernel
theorem dX7_soon_23 : decode cX7_soon 23 = .ok (.ifCond .ne 6, 3) := by decide +kernel
theorem dX7_soon_26 : decode cX7_soon 26 = .ok (.bipush (-2), 2) := by decide +kernel
theorem dX7_soon_28 : decode cX7_soon 28 = .ok (.ireturn, 1) := by decide +kernel
theorem dX7_soon_29 : decode cX7_soon 29 = .ok (.aload_n 0, 1) := by decide +kernel
theorem dX7_soon_30 : decode cX7_soon 30 = .ok (.getfield 31, 3) := by decide +kernel
theorem dX7_soon_33 : decode cX7_soon 33 = .ok (.aload_n 0, 1) := by decide +kernel
theorem dX7_soon_34 : decode cX7_soon 34 = .ok (.iload_n 1, 1) := by decide +kernel
theorem dX7_soon_35 : decode cX7_soon 35 = .ok (.invokevirtual 128, 3) := by decide +kernel
theorem dX7_soon_38 : decode cX7_soon 38 = .ok (.getfield 140, 3) := by decide +kernel
theorem dX7_soon_41 : decode cX7_soon 41 = .ok (.iload_n 2, 1) := by decide +kernel
theorem dX7_soon_42 : decode cX7_soon 42 = .ok (.iload_n 3, 1) := by decide +kernel
theorem dX7_soon_43 : decode cX7_soon 43 = .ok (.invokevirtual 150, 3) := by decide +kernel
theorem dX7_soon_46 : decode cX7_soon 46 = .ok (.ireturn, 1) := by decide +kernel
theorem dX7_loose_0 : decode cX7_loose 0 = .ok (.iload_n 1, 1) := by decide +kernel
theorem dX7_loose_1 : decode cX7_loose 1 = .ok (.iconst 2, 1) := by decide +kernel
theorem dX7_loose_2 : decode cX7_loose 2 = .ok (.invokestatic 60, 3) := by decide +kernel
theorem dX7_loose_5 : decode cX7_loose 5 = .ok (.ifCond .eq 17, 3) := by decide +kernel
theorem dX7_loose_8 : decode cX7_loose 8 = .ok (.aload_n 0, 1) := by decide +kernel
theorem dX7_loose_9 : decode cX7_loose 9 = .ok (.iload_n 1, 1) := by decide +kernel
theorem dX7_loose_10 : decode cX7_loose 10 = .ok (.invokevirtual 128, 3) := by decide +kernel
theorem dX7_loose_13 : decode cX7_loose 13 = .ok (.getfield 140, 3) := by decide +kernel
theorem dX7_loose_16 : decode cX7_loose 16 = .ok (.getfield 154, 3) := by decide +kernel
theorem dX7_loose_19 : decode cX7_loose 19 = .ok (.goto 5, 3) := by decide +kernel
theorem dX7_loose_22 : decode cX7_loose 22 = .ok (.bipush (-2), 2) := by decide +kernel
theorem dX7_loose_24 : decode cX7_loose 24 = .ok (.ireturn, 1) := by decide +kernel
theorem dX7_pulled_0 : decode cX7_pulled 0 = .ok (.iload_n 1, 1) := by decide +kernel
theorem dX7_pulled_1 : decode cX7_pulled 1 = .ok (.iconst 2, 1) := by decide +kernel
theorem dX7_pulled_2 : decode cX7_pulled 2 = .ok (.invokestatic 60, 3) := by decide +kernel
theorem dX7_pulled_5 : decode cX7_pulled 5 = .ok (.ifCond .eq 31, 3) := by decide +kernel
theorem dX7_pulled_8 : decode cX7_pulled 8 = .ok (.iload_n 2, 1) := by decide +kernel
theorem dX7_pulled_9 : decode cX7_pulled 9 = .ok (.aload_n 0, 1) := by decide +kernel
theorem dX7_pulled_10 : decode cX7_pulled 10 = .ok (.getfield 12, 3) := by decide +kernel
theorem dX7_pulled_13 : decode cX7_pulled 13 = .ok (.getfield 83, 3) := by decide +kernel
theorem dX7_pulled_16 : decode cX7_pulled 16 = .ok (.invokestatic 60, 3) := by decide +kernel
theorem dX7_pulled_19 : decode cX7_pulled 19 = .ok (.ifCond .eq 17, 3) := by decide +kernel
theorem dX7_pulled_22 : decode cX7_pulled 22 = .ok (.iload_n 3, 1) := by decide +kernel
theorem dX7_pulled_23 : decode cX7_pulled 23 = .ok (.aload_n 0, 1) := by decide +kernel
theorem dX7_pulled_24 : decode cX7_pulled 24 = .ok (.getfield 12, 3) := by decide +kernel
theorem dX7_pulled_27 : decode cX7_pulled 27 = .ok (.getfield 83, 3) := by decide +kernel
theorem dX7_pulled_30 : decode cX7_pulled 30 = .ok (.invokestatic 60, 3) := by decide +kernel
theorem dX7_pulled_33 : decode cX7_pulled 33 = .ok (.ifCond .ne 6, 3) := by decide +kernel
theorem dX7_pulled_36 : decode cX7_pulled 36 = .ok (.bipush (-2), 2) := by decide +kernel
theorem dX7_pulled_38 : decode cX7_pulled 38 = .ok (.ireturn, 1) := by decide +kernel
theorem dX7_pulled_39 : decode cX7_pulled 39 = .ok (.iload_n 2, 1) := by decide +kernel
theorem dX7_pulled_40 : decode cX7_pulled 40 = .ok (.iload_n 3, 1) := by decide +kernel
theorem dX7_pulled_41 : decode cX7_pulled 41 = .ok (.if_icmp .eq 12, 3) := by decide +kernel
theorem dX7_pulled_44 : decode cX7_pulled 44 = .ok (.iload 4, 2) := by decide +kernel
theorem dX7_pulled_46 : decode cX7_pulled 46 = .ok (.iconst 2, 1) := by decide +kernel
theorem dX7_pulled_47 : decode cX7_pulled 47 = .ok (.invokestatic 60, 3) := by decide +kernel
theorem dX7_pulled_50 : decode cX7_pulled 50 = .ok (.ifCond .ne 6, 3) := by decide +kernel
theorem dX7_pulled_53 : decode cX7_pulled 53 = .ok (.bipush (-2), 2) := by decide +kernel
theorem dX7_pulled_55 : decode cX7_pulled 55 = .ok (.ireturn, 1) := by decide +kernel
theorem dX7_pulled_56 : decode cX7_pulled 56 = .ok (.aload_n 0, 1) := by decide +kernel
theorem dX7_pulled_57 : decode cX7_pulled 57 = .ok (.getfield 12, 3) := by decide +kernel
theorem dX7_pulled_60 : decode cX7_pulled 60 = .ok (.iload_n 2, 1) := by decide +kernel
theorem dX7_pulled_61 : decode cX7_pulled 61 = .ok (.iload_n 3, 1) := by decide +kernel
theorem dX7_pulled_62 : decode cX7_pulled 62 = .ok (.invokevirtual 155, 3) := by decide +kernel
theorem dX7_pulled_65 : decode cX7_pulled 65 = .ok (.ifCond .ne 6, 3) := by decide +kernel
theorem dX7_pulled_68 : decode cX7_pulled 68 = .ok (.bipush (-3), 2) := by decide +kernel
theorem dX7_pulled_70 : decode cX7_pulled 70 = .ok (.ireturn, 1) := by decide +kernel
theorem dX7_pulled_71 : decode cX7_pulled 71 = .ok (.aload_n 0, 1) := by decide +kernel
theorem dX7_pulled_72 : decode cX7_pulled 72 = .ok (.getfield 45, 3) := by decide +kernel
theorem dX7_pulled_75 : decode cX7_pulled 75 = .ok (.aload_n 0, 1) := by decide +kernel
theorem dX7_pulled_76 : decode cX7_pulled 76 = .ok (.iload_n 1, 1) := by decide +kernel
theorem dX7_pulled_77 : decode cX7_pulled 77 = .ok (.invokevirtual 128, 3) := by decide +kernel
theorem dX7_pulled_80 : decode cX7_pulled 80 = .ok (.getfield 140, 3) := by decide +kernel
theorem dX7_pulled_83 : decode cX7_pulled 83 = .ok (.iload_n 2, 1) := by decide +kernel
theorem dX7_pulled_84 : decode cX7_pulled 84 = .ok (.iload_n 3, 1) := by decide +kernel
theorem dX7_pulled_85 : decode cX7_pulled 85 = .ok (.invokevirtual 158, 3) := by decide +kernel
theorem dX7_pulled_88 : decode cX7_pulled 88 = .ok (.iload 4, 2) := by decide +kernel
theorem dX7_pulled_90 : decode cX7_pulled 90 = .ok (.ifCond .ne 13, 3) := by decide +kernel
theorem dX7_pulled_93 : decode cX7_pulled 93 = .ok (.aload_n 0, 1) := by decide +kernel
theorem dX7_pulled_94 : decode cX7_pulled 94 = .ok (.getfield 45, 3) := by decide +kernel
theorem dX7_pulled_97 : decode cX7_pulled 97 = .ok (.getfield 154, 3) := by decide +kernel
theorem dX7_pulled_100 : decode cX7_pulled 100 = .ok (.goto 10, 3) := by decide +kernel
theorem dX7_pulled_103 : decode cX7_pulled 103 = .ok (.aload_n 0, 1) := by decide +kernel
theorem dX7_pulled_104 : decode cX7_pulled 104 = .ok (.getfield 45, 3) := by decide +kernel
theorem dX7_pulled_107 : decode cX7_pulled 107 = .ok (.getfield 162, 3) := by decide +kernel
theorem dX7_pulled_110 : decode cX7_pulled 110 = .ok (.ireturn, 1) := by decide +kernel
theorem dX7_began_0 : decode cX7_began 0 = .ok (.iload_n 1, 1) := by decide +kernel
theorem dX7_began_1 : decode cX7_began 1 = .ok (.iconst 2, 1) := by decide +kernel
theorem dX7_began_2 : decode cX7_began 2 = .ok (.invokestatic 60, 3) := by decide +kernel
theorem dX7_began_5 : decode cX7_began 5 = .ok (.ifCond .eq 12, 3) := by decide +kernel
theorem dX7_began_8 : decode cX7_began 8 = .ok (.iload_n 2, 1) := by decide +kernel
theorem dX7_began_9 : decode cX7_began 9 = .ok (.bipush 8, 2) := by decide +kernel
theorem dX7_began_11 : decode cX7_began 11 = .ok (.invokestatic 60, 3) := by decide +kernel
theorem dX7_began_14 : decode cX7_began 14 = .ok (.ifCond .ne 6, 3) := by decide +kernel
theorem dX7_began_17 : decode cX7_began 17 = .ok (.bipush (-2), 2) := by decide +kernel
theorem dX7_began_19 : decode cX7_began 19 = .ok (.ireturn, 1) := by decide +kernel
theorem dX7_began_20 : decode cX7_began 20 = .ok (.aload_n 0, 1) := by decide +kernel
theorem dX7_began_21 : decode cX7_began 21 = .ok (.iload_n 1, 1) := by decide +kernel
theorem dX7_began_22 : decode cX7_began 22 = .ok (.invokevirtual 128, 3) := by decide +kernel
theorem dX7_began_25 : decode cX7_began 25 = .ok (.getfield 140, 3) := by decide +kernel
theorem dX7_began_28 : decode cX7_began 28 = .ok (.astore_n 3, 1) := by decide +kernel
theorem dX7_began_29 : decode cX7_began 29 = .ok (.aload_n 3, 1) := by decide +kernel
theorem dX7_began_30 : decode cX7_began 30 = .ok (.iload_n 2, 1) := by decide +kernel
theorem dX7_began_31 : decode cX7_began 31 = .ok (.invokevirtual 165, 3) := by decide +kernel
theorem dX7_began_34 : decode cX7_began 34 = .ok (.istore 4, 2) := by decide +kernel
theorem dX7_began_36 : decode cX7_began 36 = .ok (.iload 4, 2) := by decide +kernel
theorem dX7_began_38 : decode cX7_began 38 = .ok (.iconst (-1), 1) := by decide +kernel
theorem dX7_began_39 : decode cX7_began 39 = .ok (.if_icmp .ne 7, 3) := by decide +kernel
theorem dX7_began_42 : decode cX7_began 42 = .ok (.iconst (-1), 1) := by decide +kernel
theorem dX7_began_43 : decode cX7_began 43 = .ok (.goto 12, 3) := by decide +kernel
theorem dX7_began_46 : decode cX7_began 46 = .ok (.aload_n 3, 1) := by decide +kernel
theorem dX7_began_47 : decode cX7_began 47 = .ok (.getfield 154, 3) := by decide +kernel
theorem dX7_began_50 : decode cX7_began 50 = .ok (.iconst 2, 1) := by decide +kernel
theorem dX7_began_51 : decode cX7_began 51 = .ok (.iload 4, 2) := by decide +kernel
theorem dX7_began_53 : decode cX7_began 53 = .ok (.imul, 1) := by decide +kernel
theorem dX7_began_54 : decode cX7_began 54 = .ok (.iadd, 1) := by decide +kernel
theorem dX7_began_55 : decode cX7_began 55 = .ok (.ireturn, 1) := by decide +kernel
theorem dX7_game_0 : decode cX7_game 0 = .ok (.iload_n 1, 1) := by decide +kernel
theorem dX7_game_1 : decode cX7_game 1 = .ok (.iconst 2, 1) := by decide +kernel
theorem dX7_game_2 : decode cX7_game 2 = .ok (.invokestatic 60, 3) := by decide +kernel
