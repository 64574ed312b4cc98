theorem dX7_game_5 : decode cX7_game 5 = .ok (.ifCond .eq 21, 3) := by decide +kernel
theorem dX7_game_8 : decode cX7_game 8 = .ok (.iload_n 2, 1) := by decide +kernel
theorem dX7_game_9 : decode cX7_game 9 = .ok (.iconst 1, 1) := by decide +kernel
theorem dX7_game_10 : decode cX7_game 10 = .ok (.if_icmp .lt 16, 3) := by decide +kernel
theorem dX7_game_13 : decode cX7_game 13 = .ok (.iload_n 2, 1) := by decide +kernel
theorem dX7_game_14 : decode cX7_game 14 = .ok (.iconst 5, 1) := by decide +kernel
theorem dX7_game_15 : decode cX7_game 15 = .ok (.if_icmp .gt 11, 3) := by decide +kernel
theorem dX7_game_18 : decode cX7_game 18 = .ok (.iload_n 3, 1) := by decide +kernel
theorem dX7_game_19 : decode cX7_game 19 = .ok (.iconst 2, 1) := by decide +kernel
theorem dX7_game_20 : decode cX7_game 20 = .ok (.invokestatic 60, 3) := by decide +kernel
theorem dX7_game_23 : decode cX7_game 23 = .ok (.ifCond .ne 7, 3) := by decide +kernel
theorem dX7_game_26 : decode cX7_game 26 = .ok (.sipush (-10002), 3) := by decide +kernel
theorem dX7_game_29 : decode cX7_game 29 = .ok (.ireturn, 1) := by decide +kernel
theorem dX7_game_30 : decode cX7_game 30 = .ok (.aload_n 0, 1) := by decide +kernel
theorem dX7_game_31 : decode cX7_game 31 = .ok (.getfield 38, 3) := by decide +kernel
theorem dX7_game_34 : decode cX7_game 34 = .ok (.aload_n 0, 1) := by decide +kernel
theorem dX7_game_35 : decode cX7_game 35 = .ok (.iload_n 1, 1) := by decide +kernel
theorem dX7_game_36 : decode cX7_game 36 = .ok (.invokevirtual 128, 3) := by decide +kernel
theorem dX7_game_39 : decode cX7_game 39 = .ok (.iload_n 2, 1) := by decide +kernel
theorem dX7_game_40 : decode cX7_game 40 = .ok (.invokevirtual 168, 3) := by decide +kernel
theorem dX7_game_43 : decode cX7_game 43 = .ok (.istore 4, 2) := by decide +kernel
theorem dX7_game_45 : decode cX7_game 45 = .ok (.iload_n 3, 1) := by decide +kernel
theorem dX7_game_46 : decode cX7_game 46 = .ok (.ifCond .ne 8, 3) := by decide +kernel
theorem dX7_game_49 : decode cX7_game 49 = .ok (.iload 4, 2) := by decide +kernel
theorem dX7_game_51 : decode cX7_game 51 = .ok (.goto 10, 3) := by decide +kernel
theorem dX7_game_54 : decode cX7_game 54 = .ok (.aload_n 0, 1) := by decide +kernel
theorem dX7_game_55 : decode cX7_game 55 = .ok (.getfield 38, 3) := by decide +kernel
theorem dX7_game_58 : decode cX7_game 58 = .ok (.getfield 172, 3) := by decide +kernel
theorem dX7_game_61 : decode cX7_game 61 = .ok (.ireturn, 1) := by decide +kernel
theorem dX7_alike_0 : decode cX7_alike 0 = .ok (.aload_n 0, 1) := by decide +kernel
theorem dX7_alike_1 : decode cX7_alike 1 = .ok (.iconst 0, 1) := by decide +kernel
theorem dX7_alike_2 : decode cX7_alike 2 = .ok (.invokevirtual 128, 3) := by decide +kernel
theorem dX7_alike_5 : decode cX7_alike 5 = .ok (.getfield 140, 3) := by decide +kernel
theorem dX7_alike_8 : decode cX7_alike 8 = .ok (.astore_n 1, 1) := by decide +kernel
theorem dX7_alike_9 : decode cX7_alike 9 = .ok (.aload_n 0, 1) := by decide +kernel
theorem dX7_alike_10 : decode cX7_alike 10 = .ok (.iconst 1, 1) := by decide +kernel
theorem dX7_alike_11 : decode cX7_alike 11 = .ok (.invokevirtual 128, 3) := by decide +kernel
theorem dX7_alike_14 : decode cX7_alike 14 = .ok (.getfield 140, 3) := by decide +kernel
theorem dX7_alike_17 : decode cX7_alike 17 = .ok (.astore_n 2, 1) := by decide +kernel
theorem dX7_alike_18 : decode cX7_alike 18 = .ok (.aload_n 1, 1) := by decide +kernel
theorem dX7_alike_19 : decode cX7_alike 19 = .ok (.aload_n 2, 1) := by decide +kernel
theorem dX7_alike_20 : decode cX7_alike 20 = .ok (.invokevirtual 175, 3) := by decide +kernel
theorem dX7_alike_23 : decode cX7_alike 23 = .ok (.ifCond .ne 5, 3) := by decide +kernel
theorem dX7_alike_26 : decode cX7_alike 26 = .ok (.iconst 0, 1) := by decide +kernel
theorem dX7_alike_27 : decode cX7_alike 27 = .ok (.ireturn, 1) := by decide +kernel
theorem dX7_alike_28 : decode cX7_alike 28 = .ok (.aload_n 1, 1) := by decide +kernel
theorem dX7_alike_29 : decode cX7_alike 29 = .ok (.aload_n 2, 1) := by decide +kernel
theorem dX7_alike_30 : decode cX7_alike 30 = .ok (.invokevirtual 179, 3) := by decide +kernel
theorem dX7_alike_33 : decode cX7_alike 33 = .ok (.ifCond .eq 7, 3) := by decide +kernel
theorem dX7_alike_36 : decode cX7_alike 36 = .ok (.iconst 1, 1) := by decide +kernel
theorem dX7_alike_37 : decode cX7_alike 37 = .ok (.goto 4, 3) := by decide +kernel
theorem dX7_alike_40 : decode cX7_alike 40 = .ok (.iconst 2, 1) := by decide +kernel
theorem dX7_alike_41 : decode cX7_alike 41 = .ok (.ireturn, 1) := by decide +kernel
theorem dX7_sheet_0 : decode cX7_sheet 0 = .ok (.iload_n 1, 1) := by decide +kernel
theorem dX7_sheet_1 : decode cX7_sheet 1 = .ok (.iconst 4, 1) := by decide +kernel
theorem dX7_sheet_2 : decode cX7_sheet 2 = .ok (.invokestatic 60, 3) := by decide +kernel
theorem dX7_sheet_5 : decode cX7_sheet 5 = .ok (.ifCond .eq 17, 3) := by decide +kernel
theorem dX7_sheet_8 : decode cX7_sheet 8 = .ok (.iload_n 2, 1) := by decide +kernel
theorem dX7_sheet_9 : decode cX7_sheet 9 = .ok (.iconst 3, 1) := by decide +kernel
theorem dX7_sheet_10 : decode cX7_sheet 10 = .ok (.invokestatic 60, 3) := by decide +kernel
theorem dX7_sheet_13 : decode cX7_sheet 13 = .ok (.ifCond .eq 9, 3) := by decide +kernel
theorem dX7_sheet_16 : decode cX7_sheet 16 = .ok (.iload_n 3, 1) := by decide +kernel
theorem dX7_sheet_17 : decode cX7_sheet 17 = .ok (.bipush 60, 2) := by decide +kernel
theorem dX7_sheet_19 : decode cX7_sheet 19 = .ok (.if_icmp .le 6, 3) := by decide +kernel
theorem dX7_sheet_22 : decode cX7_sheet 22 = .ok (.bipush (-2), 2) := by decide +kernel
theorem dX7_sheet_24 : decode cX7_sheet 24 = .ok (.ireturn, 1) := by decide +kernel
theorem dX7_sheet_25 : decode cX7_sheet 25 = .ok (.iload_n 3, 1) := by decide +kernel
theorem dX7_sheet_26 : decode cX7_sheet 26 = .ok (.ifCond .ge 9, 3) := by decide +kernel
theorem dX7_sheet_29 : decode cX7_sheet 29 = .ok (.aload_n 0, 1) := by decide +kernel
theorem dX7_sheet_30 : decode cX7_sheet 30 = .ok (.iconst 5, 1) := by decide +kernel
theorem dX7_sheet_31 : decode cX7_sheet 31 = .ok (.invokevirtual 113, 3) := by decide +kernel
theorem dX7_sheet_34 : decode cX7_sheet 34 = .ok (.ireturn, 1) := by decide +kernel
theorem dX7_sheet_35 : decode cX7_sheet 35 = .ok (.aload_n 0, 1) := by decide +kernel
theorem dX7_sheet_36 : decode cX7_sheet 36 = .ok (.getfield 51, 3) := by decide +kernel
theorem dX7_sheet_39 : decode cX7_sheet 39 = .ok (.iload_n 1, 1) := by decide +kernel
theorem dX7_sheet_40 : decode cX7_sheet 40 = .ok (.aaload, 1) := by decide +kernel
theorem dX7_sheet_41 : decode cX7_sheet 41 = .ok (.iload_n 2, 1) := by decide +kernel
theorem dX7_sheet_42 : decode cX7_sheet 42 = .ok (.iload_n 3, 1) := by decide +kernel
theorem dX7_sheet_43 : decode cX7_sheet 43 = .ok (.invokevirtual 182, 3) := by decide +kernel
theorem dX7_sheet_46 : decode cX7_sheet 46 = .ok (.iload_n 3, 1) := by decide +kernel
theorem dX7_sheet_47 : decode cX7_sheet 47 = .ok (.ireturn, 1) := by decide +kernel
theorem dX7_lose_0 : decode cX7_lose 0 = .ok (.iload_n 1, 1) := by decide +kernel
theorem dX7_lose_1 : decode cX7_lose 1 = .ok (.iconst 4, 1) := by decide +kernel
theorem dX7_lose_2 : decode cX7_lose 2 = .ok (.invokestatic 60, 3) := by decide +kernel
theorem dX7_lose_5 : decode cX7_lose 5 = .ok (.ifCond .ne 6, 3) := by decide +kernel
theorem dX7_lose_8 : decode cX7_lose 8 = .ok (.bipush (-2), 2) := by decide +kernel
theorem dX7_lose_10 : decode cX7_lose 10 = .ok (.ireturn, 1) := by decide +kernel
theorem dX7_lose_11 : decode cX7_lose 11 = .ok (.aload_n 0, 1) := by decide +kernel
theorem dX7_lose_12 : decode cX7_lose 12 = .ok (.getfield 51, 3) := by decide +kernel
theorem dX7_lose_15 : decode cX7_lose 15 = .ok (.iload_n 1, 1) := by decide +kernel
theorem dX7_lose_16 : decode cX7_lose 16 = .ok (.aaload, 1) := by decide +kernel
theorem dX7_lose_17 : decode cX7_lose 17 = .ok (.astore_n 2, 1) := by decide +kernel
theorem dX7_lose_18 : decode cX7_lose 18 = .ok (.aload_n 2, 1) := by decide +kernel
theorem dX7_lose_19 : decode cX7_lose 19 = .ok (.getfield 110, 3) := by decide +kernel
theorem dX7_lose_22 : decode cX7_lose 22 = .ok (.iconst (-1), 1) := by decide +kernel
theorem dX7_lose_23 : decode cX7_lose 23 = .ok (.if_icmp .ne 9, 3) := by decide +kernel
theorem dX7_lose_26 : decode cX7_lose 26 = .ok (.aload_n 0, 1) := by decide +kernel
theorem dX7_lose_27 : decode cX7_lose 27 = .ok (.iconst 1, 1) := by decide +kernel
theorem dX7_lose_28 : decode cX7_lose 28 = .ok (.invokevirtual 113, 3) := by decide +kernel
theorem dX7_lose_31 : decode cX7_lose 31 = .ok (.ireturn, 1) := by decide +kernel
theorem dX7_lose_32 : decode cX7_lose 32 = .ok (.aload_n 2, 1) := by decide +kernel
theorem dX7_lose_33 : decode cX7_lose 33 = .ok (.getfield 121, 3) := by decide +kernel
theorem dX7_lose_36 : decode cX7_lose 36 = .ok (.istore_n 3, 1) := by decide +kernel
theorem dX7_lose_37 : decode cX7_lose 37 = .ok (.aload_n 2, 1) := by decide +kernel
theorem dX7_lose_38 : decode cX7_lose 38 = .ok (.iconst (-1), 1) := by decide +kernel
theorem dX7_lose_39 : decode cX7_lose 39 = .ok (.iconst 0, 1) := by decide +kernel
theorem dX7_lose_40 : decode cX7_lose 40 = .ok (.invokevirtual 182, 3) := by decide +kernel
theorem dX7_lose_43 : decode cX7_lose 43 = .ok (.iload_n 3, 1) := by decide +kernel
theorem dX7_lose_44 : decode cX7_lose 44 = .ok (.ireturn, 1) := by decide +kernel
theorem dX7_lay_0 : decode cX7_lay 0 = .ok (.iload_n 1, 1) := by decide +kernel
theorem dX7_lay_1 : decode cX7_lay 1 = .ok (.iconst 4, 1) := by decide +kernel
theorem dX7_lay_2 : decode cX7_lay 2 = .ok (.invokestatic 60, 3) := by decide +kernel
theorem dX7_lay_5 : decode cX7_lay 5 = .ok (.ifCond .eq 11, 3) := by decide +kernel
theorem dX7_lay_8 : decode cX7_lay 8 = .ok (.iload_n 2, 1) := by decide +kernel
theorem dX7_lay_9 : decode cX7_lay 9 = .ok (.iconst 3, 1) := by decide +kernel
theorem dX7_lay_10 : decode cX7_lay 10 = .ok (.invokestatic 60, 3) := by decide +kernel
theorem dX7_lay_13 : decode cX7_lay 13 = .ok (.ifCond .ne 6, 3) := by decide +kernel
theorem dX7_lay_16 : decode cX7_lay 16 = .ok (.bipush (-2), 2) := by decide +kernel
theorem dX7_lay_18 : decode cX7_lay 18 = .ok (.ireturn, 1) := by decide +kernel
theorem dX7_lay_19 : decode cX7_lay 19 = .ok (.aload_n 0, 1) := by decide +kernel
theorem dX7_lay_20 : decode cX7_lay 20 = .ok (.getfield 51, 3) := by decide +kernel
theorem dX7_lay_23 : decode cX7_lay 23 = .ok (.iload_n 1, 1) := by decide +kernel
theorem dX7_lay_24 : decode cX7_lay 24 = .ok (.aaload, 1) := by decide +kernel
theorem dX7_lay_25 : decode cX7_lay 25 = .ok (.astore 5, 2) := by decide +kernel
theorem dX7_lay_27 : decode cX7_lay 27 = .ok (.aload 5, 2) := by decide +kernel
theorem dX7_lay_29 : decode cX7_lay 29 = .ok (.iload_n 2, 1) := by decide +kernel
theorem dX7_lay_30 : decode cX7_lay 30 = .ok (.iload_n 3, 1) := by decide +kernel
theorem dX7_lay_31 : decode cX7_lay 31 = .ok (.invokevirtual 186, 3) := by decide +kernel
theorem dX7_lay_34 : decode cX7_lay 34 = .ok (.istore 6, 2) := by decide +kernel
theorem dX7_lay_36 : decode cX7_lay 36 = .ok (.iload 6, 2) := by decide +kernel
theorem dX7_lay_38 : decode cX7_lay 38 = .ok (.ifCond .eq 10, 3) := by decide +kernel
theorem dX7_lay_41 : decode cX7_lay 41 = .ok (.aload_n 0, 1) := by decide +kernel
theorem dX7_lay_42 : decode cX7_lay 42 = .ok (.iload 6, 2) := by decide +kernel
theorem dX7_lay_44 : decode cX7_lay 44 = .ok (.invokevirtual 113, 3) := by decide +kernel
theorem dX7_lay_47 : decode cX7_lay 47 = .ok (.ireturn, 1) := by decide +kernel
theorem dX7_lay_48 : decode cX7_lay 48 = .ok (.aload 5, 2) := by decide +kernel
theorem dX7_lay_50 : decode cX7_lay 50 = .ok (.iload_n 3, 1) := by decide +kernel
theorem dX7_lay_51 : decode cX7_lay 51 = .ok (.iload 4, 2) := by decide +kernel
theorem dX7_lay_53 : decode cX7_lay 53 = .ok (.invokevirtual 189, 3) := by decide +kernel
theorem dX7_lay_56 : decode cX7_lay 56 = .ok (.iconst 1, 1) := by decide +kernel
theorem dX7_lay_57 : decode cX7_lay 57 = .ok (.ireturn, 1) := by decide +kernel
theorem dX7_get_0 : decode cX7_get 0 = .ok (.iload_n 1, 1) := by decide +kernel
theorem dX7_get_1 : decode cX7_get 1 = .ok (.iconst 4, 1) := by decide +kernel
theorem dX7_get_2 : decode cX7_get 2 = .ok (.invokestatic 60, 3) := by decide +kernel
theorem dX7_get_5 : decode cX7_get 5 = .ok (.ifCond .eq 11, 3) := by decide +kernel
theorem dX7_get_8 : decode cX7_get 8 = .ok (.iload_n 2, 1) := by decide +kernel
theorem dX7_get_9 : decode cX7_get 9 = .ok (.iconst 3, 1) := by decide +kernel
theorem dX7_get_10 : decode cX7_get 10 = .ok (.invokestatic 60, 3) := by decide +kernel
theorem dX7_get_13 : decode cX7_get 13 = .ok (.ifCond .ne 6, 3) := by decide +kernel
theorem dX7_get_16 : decode cX7_get 16 = .ok (.ldc 192, 2) := by decide +kernel
theorem dX7_get_18 : decode cX7_get 18 = .ok (.ireturn, 1) := by decide +kernel
theorem dX7_get_19 : decode cX7_get 19 = .ok (.aload_n 0, 1) := by decide +kernel
theorem dX7_get_20 : decode cX7_get 20 = .ok (.getfield 51, 3) := by decide +kernel
theorem dX7_get_23 : decode cX7_get 23 = .ok (.iload_n 1, 1) := by decide +kernel
theorem dX7_get_24 : decode cX7_get 24 = .ok (.aaload, 1) := by decide +kernel
theorem dX7_get_25 : decode cX7_get 25 = .ok (.astore 4, 2) := by decide +kernel
theorem dX7_get_27 : decode cX7_get 27 = .ok (.aload 4, 2) := by decide +kernel
theorem dX7_get_29 : decode cX7_get 29 = .ok (.iload_n 2, 1) := by decide +kernel
theorem dX7_get_30 : decode cX7_get 30 = .ok (.iload_n 3, 1) := by decide +kernel
theorem dX7_get_31 : decode cX7_get 31 = .ok (.invokevirtual 186, 3) := by decide +kernel
theorem dX7_get_34 : decode cX7_get 34 = .ok (.istore 5, 2) := by decide +kernel
theorem dX7_get_36 : decode cX7_get 36 = .ok (.iload 5, 2) := by decide +kernel
theorem dX7_get_38 : decode cX7_get 38 = .ok (.ifCond .eq 13, 3) := by decide +kernel
theorem dX7_get_41 : decode cX7_get 41 = .ok (.aload_n 0, 1) := by decide +kernel
theorem dX7_get_42 : decode cX7_get 42 = .ok (.iload 5, 2) := by decide +kernel
theorem dX7_get_44 : decode cX7_get 44 = .ok (.invokevirtual 113, 3) := by decide +kernel
theorem dX7_get_47 : decode cX7_get 47 = .ok (.pop, 1) := by decide +kernel
theorem dX7_get_48 : decode cX7_get 48 = .ok (.ldc 192, 2) := by decide +kernel
theorem dX7_get_50 : decode cX7_get 50 = .ok (.ireturn, 1) := by decide +kernel
theorem dX7_get_51 : decode cX7_get 51 = .ok (.aload 4, 2) := by decide +kernel
theorem dX7_get_53 : decode cX7_get 53 = .ok (.iload_n 3, 1) := by decide +kernel
theorem dX7_get_54 : decode cX7_get 54 = .ok (.invokevirtual 193, 3) := by decide +kernel
theorem dX7_get_57 : decode cX7_get 57 = .ok (.ireturn, 1) := by decide +kernel
theorem dX7_copy_0 : decode cX7_copy 0 = .ok (.iload_n 1, 1) := by decide +kernel
theorem dX7_copy_1 : decode cX7_copy 1 = .ok (.iconst 4, 1) := by decide +kernel
theorem dX7_copy_2 : decode cX7_copy 2 = .ok (.invokestatic 60, 3) := by decide +kernel
theorem dX7_copy_5 : decode cX7_copy 5 = .ok (.ifCond .eq 11, 3) := by decide +kernel
theorem dX7_copy_8 : decode cX7_copy 8 = .ok (.iload_n 3, 1) := by decide +kernel
theorem dX7_copy_9 : decode cX7_copy 9 = .ok (.iconst 4, 1) := by decide +kernel
theorem dX7_copy_10 : decode cX7_copy 10 = .ok (.invokestatic 60, 3) := by decide +kernel
theorem dX7_copy_13 : decode cX7_copy 13 = .ok (.ifCond .ne 6, 3) := by decide +kernel
theorem dX7_copy_16 : decode cX7_copy 16 = .ok (.bipush (-2), 2) := by decide +kernel
theorem dX7_copy_18 : decode cX7_copy 18 = .ok (.ireturn, 1) := by decide +kernel
theorem dX7_copy_19 : decode cX7_copy 19 = .ok (.aload_n 0, 1) := by decide +kernel
theorem dX7_copy_20 : decode cX7_copy 20 = .ok (.getfield 51, 3) := by decide +kernel
theorem dX7_copy_23 : decode cX7_copy 23 = .ok (.iload_n 1, 1) := by decide +kernel
theorem dX7_copy_24 : decode cX7_copy 24 = .ok (.aaload, 1) := by decide +kernel
theorem dX7_copy_25 : decode cX7_copy 25 = .ok (.astore 6, 2) := by decide +kernel
theorem dX7_copy_27 : decode cX7_copy 27 = .ok (.aload_n 0, 1) := by decide +kernel
theorem dX7_copy_28 : decode cX7_copy 28 = .ok (.getfield 51, 3) := by decide +kernel
theorem dX7_copy_31 : decode cX7_copy 31 = .ok (.iload_n 3, 1) := by decide +kernel
theorem dX7_copy_32 : decode cX7_copy 32 = .ok (.aaload, 1) := by decide +kernel
theorem dX7_copy_33 : decode cX7_copy 33 = .ok (.astore 7, 2) := by decide +kernel
theorem dX7_copy_35 : decode cX7_copy 35 = .ok (.aload 6, 2) := by decide +kernel
theorem dX7_copy_37 : decode cX7_copy 37 = .ok (.getfield 110, 3) := by decide +kernel
theorem dX7_copy_40 : decode cX7_copy 40 = .ok (.iconst (-1), 1) := by decide +kernel
theorem dX7_copy_41 : decode cX7_copy 41 = .ok (.if_icmp .eq 12, 3) := by decide +kernel
theorem dX7_copy_44 : decode cX7_copy 44 = .ok (.aload 7, 2) := by decide +kernel
theorem dX7_copy_46 : decode cX7_copy 46 = .ok (.getfield 110, 3) := by decide +kernel
theorem dX7_copy_49 : decode cX7_copy 49 = .ok (.iconst (-1), 1) := by decide +kernel
theorem dX7_copy_50 : decode cX7_copy 50 = .ok (.if_icmp .ne 9, 3) := by decide +kernel
theorem dX7_copy_53 : decode cX7_copy 53 = .ok (.aload_n 0, 1) := by decide +kernel
theorem dX7_copy_54 : decode cX7_copy 54 = .ok (.iconst 1, 1) := by decide +kernel
theorem dX7_copy_55 : decode cX7_copy 55 = .ok (.invokevirtual 113, 3) := by decide +kernel
theorem dX7_copy_58 : decode cX7_copy 58 = .ok (.ireturn, 1) := by decide +kernel
theorem dX7_copy_59 : decode cX7_copy 59 = .ok (.aload 6, 2) := by decide +kernel
theorem dX7_copy_61 : decode cX7_copy 61 = .ok (.getfield 110, 3) := by decide +kernel
theorem dX7_copy_64 : decode cX7_copy 64 = .ok (.aload 7, 2) := by decide +kernel
theorem dX7_copy_66 : decode cX7_copy 66 = .ok (.getfield 110, 3) := by decide +kernel
theorem dX7_copy_69 : decode cX7_copy 69 = .ok (.if_icmp .eq 9, 3) := by decide +kernel
theorem dX7_copy_72 : decode cX7_copy 72 = .ok (.aload_n 0, 1) := by decide +kernel
theorem dX7_copy_73 : decode cX7_copy 73 = .ok (.iconst 4, 1) := by decide +kernel
theorem dX7_copy_74 : decode cX7_copy 74 = .ok (.invokevirtual 113, 3) := by decide +kernel
theorem dX7_copy_77 : decode cX7_copy 77 = .ok (.ireturn, 1) := by decide +kernel
theorem dX7_copy_78 : decode cX7_copy 78 = .ok (.aload 6, 2) := by decide +kernel
theorem dX7_copy_80 : decode cX7_copy 80 = .ok (.iload_n 2, 1) := by decide +kernel
theorem dX7_copy_81 : decode cX7_copy 81 = .ok (.iload 5, 2) := by decide +kernel
theorem dX7_copy_83 : decode cX7_copy 83 = .ok (.invokevirtual 196, 3) := by decide +kernel
theorem dX7_copy_86 : decode cX7_copy 86 = .ok (.ifCond .eq 15, 3) := by decide +kernel
theorem dX7_copy_89 : decode cX7_copy 89 = .ok (.aload 7, 2) := by decide +kernel
theorem dX7_copy_91 : decode cX7_copy 91 = .ok (.iload 4, 2) := by decide +kernel
theorem dX7_copy_93 : decode cX7_copy 93 = .ok (.iload 5, 2) := by decide +kernel
theorem dX7_copy_95 : decode cX7_copy 95 = .ok (.invokevirtual 196, 3) := by decide +kernel
theorem dX7_copy_98 : decode cX7_copy 98 = .ok (.ifCond .ne 9, 3) := by decide +kernel
theorem dX7_copy_101 : decode cX7_copy 101 = .ok (.aload_n 0, 1) := by decide +kernel
theorem dX7_copy_102 : decode cX7_copy 102 = .ok (.iconst 2, 1) := by decide +kernel
theorem dX7_copy_103 : decode cX7_copy 103 = .ok (.invokevirtual 113, 3) := by decide +kernel
theorem dX7_copy_106 : decode cX7_copy 106 = .ok (.ireturn, 1) := by decide +kernel
theorem dX7_copy_107 : decode cX7_copy 107 = .ok (.aload 6, 2) := by decide +kernel
theorem dX7_copy_109 : decode cX7_copy 109 = .ok (.getfield 122, 3) := by decide +kernel
theorem dX7_copy_112 : decode cX7_copy 112 = .ok (.iload_n 2, 1) := by decide +kernel
theorem dX7_copy_113 : decode cX7_copy 113 = .ok (.aload 7, 2) := by decide +kernel
theorem dX7_copy_115 : decode cX7_copy 115 = .ok (.getfield 122, 3) := by decide +kernel
theorem dX7_copy_118 : decode cX7_copy 118 = .ok (.iload 4, 2) := by decide +kernel
theorem dX7_copy_120 : decode cX7_copy 120 = .ok (.iload 5, 2) := by decide +kernel
theorem dX7_copy_122 : decode cX7_copy 122 = .ok (.invokestatic 199, 3) := by decide +kernel
theorem dX7_copy_125 : decode cX7_copy 125 = .ok (.iconst 1, 1) := by decide +kernel
theorem dX7_copy_126 : decode cX7_copy 126 = .ok (.ireturn, 1) := by decide +kernel
theorem dX7_write_0 : decode cX7_write 0 = .ok (.iload_n 1, 1) := by decide +kernel
theorem dX7_write_1 : decode cX7_write 1 = .ok (.iconst 2, 1) := by decide +kernel
theorem dX7_write_2 : decode cX7_write 2 = .ok (.invokestatic 60, 3) := by decide +kernel
theorem dX7_write_5 : decode cX7_write 5 = .ok (.ifCond .eq 11, 3) := by decide +kernel
theorem dX7_write_8 : decode cX7_write 8 = .ok (.iload_n 2, 1) := by decide +kernel
theorem dX7_write_9 : decode cX7_write 9 = .ok (.iconst 4, 1) := by decide +kernel
theorem dX7_write_10 : decode cX7_write 10 = .ok (.invokestatic 60, 3) := by decide +kernel
theorem dX7_write_13 : decode cX7_write 13 = .ok (.ifCond .ne 6, 3) := by decide +kernel
theorem dX7_write_16 : decode cX7_write 16 = .ok (.bipush (-2), 2) := by decide +kernel
theorem dX7_write_18 : decode cX7_write 18 = .ok (.ireturn, 1) := by decide +kernel
theorem dX7_write_19 : decode cX7_write 19 = .ok (.aload_n 0, 1) := by decide +kernel
theorem dX7_write_20 : decode cX7_write 20 = .ok (.getfield 51, 3) := by decide +kernel
theorem dX7_write_23 : decode cX7_write 23 = .ok (.iload_n 2, 1) := by decide +kernel
theorem dX7_write_24 : decode cX7_write 24 = .ok (.aaload, 1) := by decide +kernel
theorem dX7_write_25 : decode cX7_write 25 = .ok (.astore_n 3, 1) := by decide +kernel
theorem dX7_write_26 : decode cX7_write 26 = .ok (.aload_n 3, 1) := by decide +kernel
theorem dX7_write_27 : decode cX7_write 27 = .ok (.getfield 110, 3) := by decide +kernel
theorem dX7_write_30 : decode cX7_write 30 = .ok (.iconst (-1), 1) := by decide +kernel
theorem dX7_write_31 : decode cX7_write 31 = .ok (.if_icmp .ne 9, 3) := by decide +kernel
theorem dX7_write_34 : decode cX7_write 34 = .ok (.aload_n 0, 1) := by decide +kernel
theorem dX7_write_35 : decode cX7_write 35 = .ok (.iconst 1, 1) := by decide +kernel
theorem dX7_write_36 : decode cX7_write 36 = .ok (.invokevirtual 113, 3) := by decide +kernel
theorem dX7_write_39 : decode cX7_write 39 = .ok (.ireturn, 1) := by decide +kernel
theorem dX7_write_40 : decode cX7_write 40 = .ok (.aload_n 0, 1) := by decide +kernel
theorem dX7_write_41 : decode cX7_write 41 = .ok (.iload_n 1, 1) := by decide +kernel
theorem dX7_write_42 : decode cX7_write 42 = .ok (.invokevirtual 128, 3) := by decide +kernel
theorem dX7_write_45 : decode cX7_write 45 = .ok (.getfield 140, 3) := by decide +kernel
theorem dX7_write_48 : decode cX7_write 48 = .ok (.astore 4, 2) := by decide +kernel
theorem dX7_write_50 : decode cX7_write 50 = .ok (.aload_n 3, 1) := by decide +kernel
theorem dX7_write_51 : decode cX7_write 51 = .ok (.getfield 121, 3) := by decide +kernel
theorem dX7_write_54 : decode cX7_write 54 = .ok (.aload 4, 2) := by decide +kernel
theorem dX7_write_56 : decode cX7_write 56 = .ok (.getfield 154, 3) := by decide +kernel
theorem dX7_write_59 : decode cX7_write 59 = .ok (.invokestatic 205, 3) := by decide +kernel
theorem dX7_write_62 : decode cX7_write 62 = .ok (.istore 5, 2) := by decide +kernel
theorem dX7_write_64 : decode cX7_write 64 = .ok (.iconst 0, 1) := by decide +kernel
theorem dX7_write_65 : decode cX7_write 65 = .ok (.istore 6, 2) := by decide +kernel
theorem dX7_write_67 : decode cX7_write 67 = .ok (.iload 6, 2) := by decide +kernel
theorem dX7_write_69 : decode cX7_write 69 = .ok (.iload 5, 2) := by decide +kernel
theorem dX7_write_71 : decode cX7_write 71 = .ok (.if_icmp .ge 22, 3) := by decide +kernel
theorem dX7_write_74 : decode cX7_write 74 = .ok (.aload_n 3, 1) := by decide +kernel
theorem dX7_write_75 : decode cX7_write 75 = .ok (.iload 6, 2) := by decide +kernel
theorem dX7_write_77 : decode cX7_write 77 = .ok (.aload 4, 2) := by decide +kernel
theorem dX7_write_79 : decode cX7_write 79 = .ok (.iload 6, 2) := by decide +kernel
theorem dX7_write_81 : decode cX7_write 81 = .ok (.invokevirtual 143, 3) := by decide +kernel
theorem dX7_write_84 : decode cX7_write 84 = .ok (.invokevirtual 189, 3) := by decide +kernel
theorem dX7_write_87 : decode cX7_write 87 = .ok (.iinc 6 1, 3) := by decide +kernel
theorem dX7_write_90 : decode cX7_write 90 = .ok (.goto (-23), 3) := by decide +kernel
theorem dX7_write_93 : decode cX7_write 93 = .ok (.iload 5, 2) := by decide +kernel
theorem dX7_write_95 : decode cX7_write 95 = .ok (.ireturn, 1) := by decide +kernel
theorem dX7_count_0 : decode cX7_count 0 = .ok (.iload_n 1, 1) := by decide +kernel
theorem dX7_count_1 : decode cX7_count 1 = .ok (.bipush 9, 2) := by decide +kernel
theorem dX7_count_3 : decode cX7_count 3 = .ok (.invokestatic 60, 3) := by decide +kernel
theorem dX7_count_6 : decode cX7_count 6 = .ok (.ifCond .ne 6, 3) := by decide +kernel
theorem dX7_count_9 : decode cX7_count 9 = .ok (.bipush (-2), 2) := by decide +kernel
theorem dX7_count_11 : decode cX7_count 11 = .ok (.ireturn, 1) := by decide +kernel
theorem dX7_count_12 : decode cX7_count 12 = .ok (.iload_n 1, 1) := by decide +kernel
theorem dX7_count_13 : decode cX7_count 13 = .ok (.tableswitch 99 0 8 #[51, 99, 99, 99, 59, 67, 76, 85, 94], 51) := by decide +kernel
theorem dX7_count_64 : decode cX7_count 64 = .ok (.aload_n 0, 1) := by decide +kernel
theorem dX7_count_65 : decode cX7_count 65 = .ok (.getfield 12, 3) := by decide +kernel
theorem dX7_count_68 : decode cX7_count 68 = .ok (.getfield 83, 3) := by decide +kernel
theorem dX7_count_71 : decode cX7_count 71 = .ok (.ireturn, 1) := by decide +kernel
theorem dX7_count_72 : decode cX7_count 72 = .ok (.aload_n 0, 1) := by decide +kernel
theorem dX7_count_73 : decode cX7_count 73 = .ok (.getfield 12, 3) := by decide +kernel
theorem dX7_count_76 : decode cX7_count 76 = .ok (.invokevirtual 210, 3) := by decide +kernel
theorem dX7_count_79 : decode cX7_count 79 = .ok (.ireturn, 1) := by decide +kernel
theorem dX7_count_80 : decode cX7_count 80 = .ok (.aload_n 0, 1) := by decide +kernel
theorem dX7_count_81 : decode cX7_count 81 = .ok (.getfield 12, 3) := by decide +kernel
theorem dX7_count_84 : decode cX7_count 84 = .ok (.iconst 0, 1) := by decide +kernel
theorem dX7_count_85 : decode cX7_count 85 = .ok (.invokevirtual 213, 3) := by decide +kernel
theorem dX7_count_88 : decode cX7_count 88 = .ok (.ireturn, 1) := by decide +kernel
theorem dX7_count_89 : decode cX7_count 89 = .ok (.aload_n 0, 1) := by decide +kernel
theorem dX7_count_90 : decode cX7_count 90 = .ok (.iconst 0, 1) := by decide +kernel
theorem dX7_count_91 : decode cX7_count 91 = .ok (.invokevirtual 128, 3) := by decide +kernel
theorem dX7_count_94 : decode cX7_count 94 = .ok (.getfield 131, 3) := by decide +kernel
theorem dX7_count_97 : decode cX7_count 97 = .ok (.ireturn, 1) := by decide +kernel
theorem dX7_count_98 : decode cX7_count 98 = .ok (.aload_n 0, 1) := by decide +kernel
theorem dX7_count_99 : decode cX7_count 99 = .ok (.iconst 1, 1) := by decide +kernel
theorem dX7_count_100 : decode cX7_count 100 = .ok (.invokevirtual 128, 3) := by decide +kernel
theorem dX7_count_103 : decode cX7_count 103 = .ok (.getfield 131, 3) := by decide +kernel
theorem dX7_count_106 : decode cX7_count 106 = .ok (.ireturn, 1) := by decide +kernel
theorem dX7_count_107 : decode cX7_count 107 = .ok (.aload_n 0, 1) := by decide +kernel
theorem dX7_count_108 : decode cX7_count 108 = .ok (.getfield 55, 3) := by decide +kernel
theorem dX7_count_111 : decode cX7_count 111 = .ok (.ireturn, 1) := by decide +kernel
theorem dX7_count_112 : decode cX7_count 112 = .ok (.aload_n 0, 1) := by decide +kernel
theorem dX7_count_113 : decode cX7_count 113 = .ok (.iload_n 1, 1) := by decide +kernel
theorem dX7_count_114 : decode cX7_count 114 = .ok (.iconst 1, 1) := by decide +kernel
theorem dX7_count_115 : decode cX7_count 115 = .ok (.isub, 1) := by decide +kernel
theorem dX7_count_116 : decode cX7_count 116 = .ok (.invokevirtual 64, 3) := by decide +kernel
theorem dX7_count_119 : decode cX7_count 119 = .ok (.getfield 68, 3) := by decide +kernel
theorem dX7_count_122 : decode cX7_count 122 = .ok (.ireturn, 1) := by decide +kernel
theorem dX7_digest_0 : decode cX7_digest 0 = .ok (.ldc2_w 216, 3) := by decide +kernel
theorem dX7_digest_3 : decode cX7_digest 3 = .ok (.lstore_n 1, 1) := by decide +kernel
theorem dX7_digest_4 : decode cX7_digest 4 = .ok (.iconst 0, 1) := by decide +kernel
theorem dX7_digest_5 : decode cX7_digest 5 = .ok (.istore_n 3, 1) := by decide +kernel
theorem dX7_digest_6 : decode cX7_digest 6 = .ok (.iload_n 3, 1) := by decide +kernel
theorem dX7_digest_7 : decode cX7_digest 7 = .ok (.bipush 8, 2) := by decide +kernel
theorem dX7_digest_9 : decode cX7_digest 9 = .ok (.if_icmp .ge 22, 3) := by decide +kernel
theorem dX7_digest_12 : decode cX7_digest 12 = .ok (.ldc2_w 218, 3) := by decide +kernel
theorem dX7_digest_15 : decode cX7_digest 15 = .ok (.lload_n 1, 1) := by decide +kernel
theorem dX7_digest_16 : decode cX7_digest 16 = .ok (.lmul, 1) := by decide +kernel
theorem dX7_digest_17 : decode cX7_digest 17 = .ok (.aload_n 0, 1) := by decide +kernel
theorem dX7_digest_18 : decode cX7_digest 18 = .ok (.iload_n 3, 1) := by decide +kernel
theorem dX7_digest_19 : decode cX7_digest 19 = .ok (.invokevirtual 220, 3) := by decide +kernel
theorem dX7_digest_22 : decode cX7_digest 22 = .ok (.i2l, 1) := by decide +kernel
theorem dX7_digest_23 : decode cX7_digest 23 = .ok (.ladd, 1) := by decide +kernel
theorem dX7_digest_24 : decode cX7_digest 24 = .ok (.lstore_n 1, 1) := by decide +kernel
theorem dX7_digest_25 : decode cX7_digest 25 = .ok (.iinc 3 1, 3) := by decide +kernel
theorem dX7_digest_28 : decode cX7_digest 28 = .ok (.goto (-22), 3) := by decide +kernel
theorem dX7_digest_31 : decode cX7_digest 31 = .ok (.ldc2_w 218, 3) := by decide +kernel
theorem dX7_digest_34 : decode cX7_digest 34 = .ok (.lload_n 1, 1) := by decide +kernel
theorem dX7_digest_35 : decode cX7_digest 35 = .ok (.lmul, 1) := by decide +kernel
theorem dX7_digest_36 : decode cX7_digest 36 = .ok (.aload_n 0, 1) := by decide +kernel
theorem dX7_digest_37 : decode cX7_digest 37 = .ok (.invokevirtual 223, 3) := by decide +kernel
theorem dX7_digest_40 : decode cX7_digest 40 = .ok (.i2l, 1) := by decide +kernel
theorem dX7_digest_41 : decode cX7_digest 41 = .ok (.ladd, 1) := by decide +kernel
theorem dX7_digest_42 : decode cX7_digest 42 = .ok (.lstore_n 1, 1) := by decide +kernel
theorem dX7_digest_43 : decode cX7_digest 43 = .ok (.iconst 0, 1) := by decide +kernel
theorem dX7_digest_44 : decode cX7_digest 44 = .ok (.istore_n 3, 1) := by decide +kernel
theorem dX7_digest_45 : decode cX7_digest 45 = .ok (.iload_n 3, 1) := by decide +kernel
theorem dX7_digest_46 : decode cX7_digest 46 = .ok (.aload_n 0, 1) := by decide +kernel
theorem dX7_digest_47 : decode cX7_digest 47 = .ok (.getfield 12, 3) := by decide +kernel
theorem dX7_digest_50 : decode cX7_digest 50 = .ok (.getfield 83, 3) := by decide +kernel
theorem dX7_digest_53 : decode cX7_digest 53 = .ok (.if_icmp .ge 39, 3) := by decide +kernel
theorem dX7_digest_56 : decode cX7_digest 56 = .ok (.iconst 0, 1) := by decide +kernel
theorem dX7_digest_57 : decode cX7_digest 57 = .ok (.istore 4, 2) := by decide +kernel
theorem dX7_digest_59 : decode cX7_digest 59 = .ok (.iload 4, 2) := by decide +kernel
theorem dX7_digest_61 : decode cX7_digest 61 = .ok (.iconst 3, 1) := by decide +kernel
theorem dX7_digest_62 : decode cX7_digest 62 = .ok (.if_icmp .ge 24, 3) := by decide +kernel
theorem dX7_digest_65 : decode cX7_digest 65 = .ok (.ldc2_w 218, 3) := by decide +kernel
theorem dX7_digest_68 : decode cX7_digest 68 = .ok (.lload_n 1, 1) := by decide +kernel
theorem dX7_digest_69 : decode cX7_digest 69 = .ok (.lmul, 1) := by decide +kernel
theorem dX7_digest_70 : decode cX7_digest 70 = .ok (.aload_n 0, 1) := by decide +kernel
theorem dX7_digest_71 : decode cX7_digest 71 = .ok (.iload_n 3, 1) := by decide +kernel
theorem dX7_digest_72 : decode cX7_digest 72 = .ok (.iload 4, 2) := by decide +kernel
theorem dX7_digest_74 : decode cX7_digest 74 = .ok (.invokevirtual 226, 3) := by decide +kernel
theorem dX7_digest_77 : decode cX7_digest 77 = .ok (.i2l, 1) := by decide +kernel
theorem dX7_digest_78 : decode cX7_digest 78 = .ok (.ladd, 1) := by decide +kernel
theorem dX7_digest_79 : decode cX7_digest 79 = .ok (.lstore_n 1, 1) := by decide +kernel
theorem dX7_digest_80 : decode cX7_digest 80 = .ok (.iinc 4 1, 3) := by decide +kernel
theorem dX7_digest_83 : decode cX7_digest 83 = .ok (.goto (-24), 3) := by decide +kernel
theorem dX7_digest_86 : decode cX7_digest 86 = .ok (.iinc 3 1, 3) := by decide +kernel
theorem dX7_digest_89 : decode cX7_digest 89 = .ok (.goto (-44), 3) := by decide +kernel
theorem dX7_digest_92 : decode cX7_digest 92 = .ok (.iconst 0, 1) := by decide +kernel
theorem dX7_digest_93 : decode cX7_digest 93 = .ok (.istore_n 3, 1) := by decide +kernel
theorem dX7_digest_94 : decode cX7_digest 94 = .ok (.iload_n 3, 1) := by decide +kernel
theorem dX7_digest_95 : decode cX7_digest 95 = .ok (.iconst 2, 1) := by decide +kernel
theorem dX7_digest_96 : decode cX7_digest 96 = .ok (.if_icmp .ge 195, 3) := by decide +kernel
theorem dX7_digest_99 : decode cX7_digest 99 = .ok (.aload_n 0, 1) := by decide +kernel
theorem dX7_digest_100 : decode cX7_digest 100 = .ok (.iload_n 3, 1) := by decide +kernel
theorem dX7_digest_101 : decode cX7_digest 101 = .ok (.invokevirtual 128, 3) := by decide +kernel
theorem dX7_digest_104 : decode cX7_digest 104 = .ok (.getfield 131, 3) := by decide +kernel
theorem dX7_digest_107 : decode cX7_digest 107 = .ok (.istore 4, 2) := by decide +kernel
theorem dX7_digest_109 : decode cX7_digest 109 = .ok (.ldc2_w 218, 3) := by decide +kernel
theorem dX7_digest_112 : decode cX7_digest 112 = .ok (.lload_n 1, 1) := by decide +kernel
theorem dX7_digest_113 : decode cX7_digest 113 = .ok (.lmul, 1) := by decide +kernel
theorem dX7_digest_114 : decode cX7_digest 114 = .ok (.aload_n 0, 1) := by decide +kernel
theorem dX7_digest_115 : decode cX7_digest 115 = .ok (.iload_n 3, 1) := by decide +kernel
theorem dX7_digest_116 : decode cX7_digest 116 = .ok (.invokevirtual 229, 3) := by decide +kernel
theorem dX7_digest_119 : decode cX7_digest 119 = .ok (.i2l, 1) := by decide +kernel
theorem dX7_digest_120 : decode cX7_digest 120 = .ok (.ladd, 1) := by decide +kernel
theorem dX7_digest_121 : decode cX7_digest 121 = .ok (.lstore_n 1, 1) := by decide +kernel
theorem dX7_digest_122 : decode cX7_digest 122 = .ok (.iconst 0, 1) := by decide +kernel
theorem dX7_digest_123 : decode cX7_digest 123 = .ok (.istore 5, 2) := by decide +kernel
theorem dX7_digest_125 : decode cX7_digest 125 = .ok (.iload 5, 2) := by decide +kernel
theorem dX7_digest_127 : decode cX7_digest 127 = .ok (.bipush 8, 2) := by decide +kernel
theorem dX7_digest_129 : decode cX7_digest 129 = .ok (.if_icmp .ge 26, 3) := by decide +kernel
theorem dX7_digest_132 : decode cX7_digest 132 = .ok (.ldc2_w 218, 3) := by decide +kernel
theorem dX7_digest_135 : decode cX7_digest 135 = .ok (.lload_n 1, 1) := by decide +kernel
theorem dX7_digest_136 : decode cX7_digest 136 = .ok (.lmul, 1) := by decide +kernel
theorem dX7_digest_137 : decode cX7_digest 137 = .ok (.aload_n 0, 1) := by decide +kernel
theorem dX7_digest_138 : decode cX7_digest 138 = .ok (.iload_n 3, 1) := by decide +kernel
theorem dX7_digest_139 : decode cX7_digest 139 = .ok (.iload 4, 2) := by decide +kernel
theorem dX7_digest_141 : decode cX7_digest 141 = .ok (.iload 5, 2) := by decide +kernel
theorem dX7_digest_143 : decode cX7_digest 143 = .ok (.invokevirtual 232, 3) := by decide +kernel
theorem dX7_digest_146 : decode cX7_digest 146 = .ok (.i2l, 1) := by decide +kernel
theorem dX7_digest_147 : decode cX7_digest 147 = .ok (.ladd, 1) := by decide +kernel
theorem dX7_digest_148 : decode cX7_digest 148 = .ok (.lstore_n 1, 1) := by decide +kernel
theorem dX7_digest_149 : decode cX7_digest 149 = .ok (.iinc 5 1, 3) := by decide +kernel
theorem dX7_digest_152 : decode cX7_digest 152 = .ok (.goto (-27), 3) := by decide +kernel
theorem dX7_digest_155 : decode cX7_digest 155 = .ok (.ldc2_w 218, 3) := by decide +kernel
theorem dX7_digest_158 : decode cX7_digest 158 = .ok (.lload_n 1, 1) := by decide +kernel
theorem dX7_digest_159 : decode cX7_digest 159 = .ok (.lmul, 1) := by decide +kernel
theorem dX7_digest_160 : decode cX7_digest 160 = .ok (.aload_n 0, 1) := by decide +kernel
theorem dX7_digest_161 : decode cX7_digest 161 = .ok (.iload_n 3, 1) := by decide +kernel
theorem dX7_digest_162 : decode cX7_digest 162 = .ok (.iload 4, 2) := by decide +kernel
theorem dX7_digest_164 : decode cX7_digest 164 = .ok (.iconst 0, 1) := by decide +kernel
theorem dX7_digest_165 : decode cX7_digest 165 = .ok (.invokevirtual 236, 3) := by decide +kernel
theorem dX7_digest_168 : decode cX7_digest 168 = .ok (.i2l, 1) := by decide +kernel
theorem dX7_digest_169 : decode cX7_digest 169 = .ok (.ladd, 1) := by decide +kernel
theorem dX7_digest_170 : decode cX7_digest 170 = .ok (.lstore_n 1, 1) := by decide +kernel
theorem dX7_digest_171 : decode cX7_digest 171 = .ok (.ldc2_w 218, 3) := by decide +kernel
theorem dX7_digest_174 : decode cX7_digest 174 = .ok (.lload_n 1, 1) := by decide +kernel
theorem dX7_digest_175 : decode cX7_digest 175 = .ok (.lmul, 1) := by decide +kernel
theorem dX7_digest_176 : decode cX7_digest 176 = .ok (.aload_n 0, 1) := by decide +kernel
theorem dX7_digest_177 : decode cX7_digest 177 = .ok (.iload_n 3, 1) := by decide +kernel
theorem dX7_digest_178 : decode cX7_digest 178 = .ok (.invokevirtual 239, 3) := by decide +kernel
theorem dX7_digest_181 : decode cX7_digest 181 = .ok (.i2l, 1) := by decide +kernel
theorem dX7_digest_182 : decode cX7_digest 182 = .ok (.ladd, 1) := by decide +kernel
theorem dX7_digest_183 : decode cX7_digest 183 = .ok (.lstore_n 1, 1) := by decide +kernel
theorem dX7_digest_184 : decode cX7_digest 184 = .ok (.ldc2_w 218, 3) := by decide +kernel
theorem dX7_digest_187 : decode cX7_digest 187 = .ok (.lload_n 1, 1) := by decide +kernel
theorem dX7_digest_188 : decode cX7_digest 188 = .ok (.lmul, 1) := by decide +kernel
theorem dX7_digest_189 : decode cX7_digest 189 = .ok (.aload_n 0, 1) := by decide +kernel
theorem dX7_digest_190 : decode cX7_digest 190 = .ok (.iload_n 3, 1) := by decide +kernel
theorem dX7_digest_191 : decode cX7_digest 191 = .ok (.iconst 0, 1) := by decide +kernel
theorem dX7_digest_192 : decode cX7_digest 192 = .ok (.iconst 1, 1) := by decide +kernel
theorem dX7_digest_193 : decode cX7_digest 193 = .ok (.invokevirtual 242, 3) := by decide +kernel
theorem dX7_digest_196 : decode cX7_digest 196 = .ok (.i2l, 1) := by decide +kernel
theorem dX7_digest_197 : decode cX7_digest 197 = .ok (.ladd, 1) := by decide +kernel
theorem dX7_digest_198 : decode cX7_digest 198 = .ok (.lstore_n 1, 1) := by decide +kernel
theorem dX7_digest_199 : decode cX7_digest 199 = .ok (.ldc2_w 218, 3) := by decide +kernel
theorem dX7_digest_202 : decode cX7_digest 202 = .ok (.lload_n 1, 1) := by decide +kernel
theorem dX7_digest_203 : decode cX7_digest 203 = .ok (.lmul, 1) := by decide +kernel
theorem dX7_digest_204 : decode cX7_digest 204 = .ok (.aload_n 0, 1) := by decide +kernel
theorem dX7_digest_205 : decode cX7_digest 205 = .ok (.iload_n 3, 1) := by decide +kernel
theorem dX7_digest_206 : decode cX7_digest 206 = .ok (.iconst 2, 1) := by decide +kernel
theorem dX7_digest_207 : decode cX7_digest 207 = .ok (.iconst 2, 1) := by decide +kernel
theorem dX7_digest_208 : decode cX7_digest 208 = .ok (.invokevirtual 242, 3) := by decide +kernel
theorem dX7_digest_211 : decode cX7_digest 211 = .ok (.i2l, 1) := by decide +kernel
theorem dX7_digest_212 : decode cX7_digest 212 = .ok (.ladd, 1) := by decide +kernel
theorem dX7_digest_213 : decode cX7_digest 213 = .ok (.lstore_n 1, 1) := by decide +kernel
theorem dX7_digest_214 : decode cX7_digest 214 = .ok (.ldc2_w 218, 3) := by decide +kernel
theorem dX7_digest_217 : decode cX7_digest 217 = .ok (.lload_n 1, 1) := by decide +kernel
theorem dX7_digest_218 : decode cX7_digest 218 = .ok (.lmul, 1) := by decide +kernel
theorem dX7_digest_219 : decode cX7_digest 219 = .ok (.aload_n 0, 1) := by decide +kernel
theorem dX7_digest_220 : decode cX7_digest 220 = .ok (.iload_n 3, 1) := by decide +kernel
theorem dX7_digest_221 : decode cX7_digest 221 = .ok (.invokevirtual 245, 3) := by decide +kernel
theorem dX7_digest_224 : decode cX7_digest 224 = .ok (.i2l, 1) := by decide +kernel
theorem dX7_digest_225 : decode cX7_digest 225 = .ok (.ladd, 1) := by decide +kernel
theorem dX7_digest_226 : decode cX7_digest 226 = .ok (.lstore_n 1, 1) := by decide +kernel
theorem dX7_digest_227 : decode cX7_digest 227 = .ok (.ldc2_w 218, 3) := by decide +kernel
theorem dX7_digest_230 : decode cX7_digest 230 = .ok (.lload_n 1, 1) := by decide +kernel
theorem dX7_digest_231 : decode cX7_digest 231 = .ok (.lmul, 1) := by decide +kernel
theorem dX7_digest_232 : decode cX7_digest 232 = .ok (.aload_n 0, 1) := by decide +kernel
theorem dX7_digest_233 : decode cX7_digest 233 = .ok (.iload_n 3, 1) := by decide +kernel
theorem dX7_digest_234 : decode cX7_digest 234 = .ok (.iconst 0, 1) := by decide +kernel
theorem dX7_digest_235 : decode cX7_digest 235 = .ok (.invokevirtual 248, 3) := by decide +kernel
theorem dX7_digest_238 : decode cX7_digest 238 = .ok (.i2l, 1) := by decide +kernel
theorem dX7_digest_239 : decode cX7_digest 239 = .ok (.ladd, 1) := by decide +kernel
theorem dX7_digest_240 : decode cX7_digest 240 = .ok (.lstore_n 1, 1) := by decide +kernel
theorem dX7_digest_241 : decode cX7_digest 241 = .ok (.ldc2_w 218, 3) := by decide +kernel
theorem dX7_digest_244 : decode cX7_digest 244 = .ok (.lload_n 1, 1) := by decide +kernel
theorem dX7_digest_245 : decode cX7_digest 245 = .ok (.lmul, 1) := by decide +kernel
theorem dX7_digest_246 : decode cX7_digest 246 = .ok (.aload_n 0, 1) := by decide +kernel
theorem dX7_digest_247 : decode cX7_digest 247 = .ok (.iload_n 3, 1) := by decide +kernel
theorem dX7_digest_248 : decode cX7_digest 248 = .ok (.iconst 1, 1) := by decide +kernel
theorem dX7_digest_249 : decode cX7_digest 249 = .ok (.invokevirtual 248, 3) := by decide +kernel
theorem dX7_digest_252 : decode cX7_digest 252 = .ok (.i2l, 1) := by decide +kernel
theorem dX7_digest_253 : decode cX7_digest 253 = .ok (.ladd, 1) := by decide +kernel
theorem dX7_digest_254 : decode cX7_digest 254 = .ok (.lstore_n 1, 1) := by decide +kernel
theorem dX7_digest_255 : decode cX7_digest 255 = .ok (.ldc2_w 218, 3) := by decide +kernel
theorem dX7_digest_258 : decode cX7_digest 258 = .ok (.lload_n 1, 1) := by decide +kernel
theorem dX7_digest_259 : decode cX7_digest 259 = .ok (.lmul, 1) := by decide +kernel
theorem dX7_digest_260 : decode cX7_digest 260 = .ok (.aload_n 0, 1) := by decide +kernel
theorem dX7_digest_261 : decode cX7_digest 261 = .ok (.iload_n 3, 1) := by decide +kernel
theorem dX7_digest_262 : decode cX7_digest 262 = .ok (.iconst 3, 1) := by decide +kernel
theorem dX7_digest_263 : decode cX7_digest 263 = .ok (.iconst 0, 1) := by decide +kernel
theorem dX7_digest_264 : decode cX7_digest 264 = .ok (.invokevirtual 251, 3) := by decide +kernel
theorem dX7_digest_267 : decode cX7_digest 267 = .ok (.i2l, 1) := by decide +kernel
theorem dX7_digest_268 : decode cX7_digest 268 = .ok (.ladd, 1) := by decide +kernel
theorem dX7_digest_269 : decode cX7_digest 269 = .ok (.lstore_n 1, 1) := by decide +kernel
theorem dX7_digest_270 : decode cX7_digest 270 = .ok (.ldc2_w 218, 3) := by decide +kernel
theorem dX7_digest_273 : decode cX7_digest 273 = .ok (.lload_n 1, 1) := by decide +kernel
theorem dX7_digest_274 : decode cX7_digest 274 = .ok (.lmul, 1) := by decide +kernel
theorem dX7_digest_275 : decode cX7_digest 275 = .ok (.aload_n 0, 1) := by decide +kernel
theorem dX7_digest_276 : decode cX7_digest 276 = .ok (.iload_n 3, 1) := by decide +kernel
theorem dX7_digest_277 : decode cX7_digest 277 = .ok (.iconst 3, 1) := by decide +kernel
theorem dX7_digest_278 : decode cX7_digest 278 = .ok (.iconst 1, 1) := by decide +kernel
theorem dX7_digest_279 : decode cX7_digest 279 = .ok (.invokevirtual 251, 3) := by decide +kernel
theorem dX7_digest_282 : decode cX7_digest 282 = .ok (.i2l, 1) := by decide +kernel
theorem dX7_digest_283 : decode cX7_digest 283 = .ok (.ladd, 1) := by decide +kernel
theorem dX7_digest_284 : decode cX7_digest 284 = .ok (.lstore_n 1, 1) := by decide +kernel
theorem dX7_digest_285 : decode cX7_digest 285 = .ok (.iinc 3 1, 3) := by decide +kernel
theorem dX7_digest_288 : decode cX7_digest 288 = .ok (.goto (-194), 3) := by decide +kernel
theorem dX7_digest_291 : decode cX7_digest 291 = .ok (.ldc2_w 218, 3) := by decide +kernel
theorem dX7_digest_294 : decode cX7_digest 294 = .ok (.lload_n 1, 1) := by decide +kernel
theorem dX7_digest_295 : decode cX7_digest 295 = .ok (.lmul, 1) := by decide +kernel
theorem dX7_digest_296 : decode cX7_digest 296 = .ok (.aload_n 0, 1) := by decide +kernel
theorem dX7_digest_297 : decode cX7_digest 297 = .ok (.iconst 0, 1) := by decide +kernel
theorem dX7_digest_298 : decode cX7_digest 298 = .ok (.iconst 0, 1) := by decide +kernel
theorem dX7_digest_299 : decode cX7_digest 299 = .ok (.iconst 1, 1) := by decide +kernel
theorem dX7_digest_300 : decode cX7_digest 300 = .ok (.iconst 0, 1) := by decide +kernel
theorem dX7_digest_301 : decode cX7_digest 301 = .ok (.invokevirtual 254, 3) := by decide +kernel
theorem dX7_digest_304 : decode cX7_digest 304 = .ok (.i2l, 1) := by decide +kernel
theorem dX7_digest_305 : decode cX7_digest 305 = .ok (.ladd, 1) := by decide +kernel
theorem dX7_digest_306 : decode cX7_digest 306 = .ok (.lstore_n 1, 1) := by decide +kernel
theorem dX7_digest_307 : decode cX7_digest 307 = .ok (.ldc2_w 218, 3) := by decide +kernel
theorem dX7_digest_310 : decode cX7_digest 310 = .ok (.lload_n 1, 1) := by decide +kernel
theorem dX7_digest_311 : decode cX7_digest 311 = .ok (.lmul, 1) := by decide +kernel
theorem dX7_digest_312 : decode cX7_digest 312 = .ok (.aload_n 0, 1) := by decide +kernel
theorem dX7_digest_313 : decode cX7_digest 313 = .ok (.iconst 0, 1) := by decide +kernel
theorem dX7_digest_314 : decode cX7_digest 314 = .ok (.iconst 0, 1) := by decide +kernel
theorem dX7_digest_315 : decode cX7_digest 315 = .ok (.iconst 1, 1) := by decide +kernel
theorem dX7_digest_316 : decode cX7_digest 316 = .ok (.iconst 1, 1) := by decide +kernel
theorem dX7_digest_317 : decode cX7_digest 317 = .ok (.invokevirtual 254, 3) := by decide +kernel
theorem dX7_digest_320 : decode cX7_digest 320 = .ok (.i2l, 1) := by decide +kernel
theorem dX7_digest_321 : decode cX7_digest 321 = .ok (.ladd, 1) := by decide +kernel
theorem dX7_digest_322 : decode cX7_digest 322 = .ok (.lstore_n 1, 1) := by decide +kernel
theorem dX7_digest_323 : decode cX7_digest 323 = .ok (.ldc2_w 218, 3) := by decide +kernel
theorem dX7_digest_326 : decode cX7_digest 326 = .ok (.lload_n 1, 1) := by decide +kernel
theorem dX7_digest_327 : decode cX7_digest 327 = .ok (.lmul, 1) := by decide +kernel
theorem dX7_digest_328 : decode cX7_digest 328 = .ok (.aload_n 0, 1) := by decide +kernel
theorem dX7_digest_329 : decode cX7_digest 329 = .ok (.invokevirtual 258, 3) := by decide +kernel
theorem dX7_digest_332 : decode cX7_digest 332 = .ok (.i2l, 1) := by decide +kernel
theorem dX7_digest_333 : decode cX7_digest 333 = .ok (.ladd, 1) := by decide +kernel
theorem dX7_digest_334 : decode cX7_digest 334 = .ok (.lreturn, 1) := by decide +kernel
theorem dX7_isBelow_0 : decode cX7_isBelow 0 = .ok (.iload_n 0, 1) := by decide +kernel
theorem dX7_isBelow_1 : decode cX7_isBelow 1 = .ok (.ifCond .lt 12, 3) := by decide +kernel
theorem dX7_isBelow_4 : decode cX7_isBelow 4 = .ok (.iload_n 0, 1) := by decide +kernel
theorem dX7_isBelow_5 : decode cX7_isBelow 5 = .ok (.iload_n 1, 1) := by decide +kernel
theorem dX7_isBelow_6 : decode cX7_isBelow 6 = .ok (.if_icmp .ge 7, 3) := by decide +kernel
theorem dX7_isBelow_9 : decode cX7_isBelow 9 = .ok (.iconst 1, 1) := by decide +kernel
theorem dX7_isBelow_10 : decode cX7_isBelow 10 = .ok (.goto 4, 3) := by decide +kernel
theorem dX7_isBelow_13 : decode cX7_isBelow 13 = .ok (.iconst 0, 1) := by decide +kernel
theorem dX7_isBelow_14 : decode cX7_isBelow 14 = .ok (.ireturn, 1) := by decide +kernel
theorem dX7_textOf_0 : decode cX7_textOf 0 = .ok (.iload_n 1, 1) := by decide +kernel
theorem dX7_textOf_1 : decode cX7_textOf 1 = .ok (.ifCond .ne 13, 3) := by decide +kernel
theorem dX7_textOf_4 : decode cX7_textOf 4 = .ok (.aload_n 0, 1) := by decide +kernel
theorem dX7_textOf_5 : decode cX7_textOf 5 = .ok (.getfield 12, 3) := by decide +kernel
theorem dX7_textOf_8 : decode cX7_textOf 8 = .ok (.getfield 261, 3) := by decide +kernel
theorem dX7_textOf_11 : decode cX7_textOf 11 = .ok (.goto 13, 3) := by decide +kernel
theorem dX7_textOf_14 : decode cX7_textOf 14 = .ok (.aload_n 0, 1) := by decide +kernel
theorem dX7_textOf_15 : decode cX7_textOf 15 = .ok (.iload_n 1, 1) := by decide +kernel
theorem dX7_textOf_16 : decode cX7_textOf 16 = .ok (.iconst 1, 1) := by decide +kernel
theorem dX7_textOf_17 : decode cX7_textOf 17 = .ok (.isub, 1) := by decide +kernel
theorem dX7_textOf_18 : decode cX7_textOf 18 = .ok (.invokevirtual 90, 3) := by decide +kernel
theorem dX7_textOf_21 : decode cX7_textOf 21 = .ok (.getfield 117, 3) := by decide +kernel
theorem dX7_textOf_24 : decode cX7_textOf 24 = .ok (.areturn, 1) := by decide +kernel
theorem dX7_dayOf_0 : decode cX7_dayOf 0 = .ok (.iload_n 1, 1) := by decide +kernel
theorem dX7_dayOf_1 : decode cX7_dayOf 1 = .ok (.ifCond .ne 10, 3) := by decide +kernel
theorem dX7_dayOf_4 : decode cX7_dayOf 4 = .ok (.aload_n 0, 1) := by decide +kernel
theorem dX7_dayOf_5 : decode cX7_dayOf 5 = .ok (.getfield 21, 3) := by decide +kernel
theorem dX7_dayOf_8 : decode cX7_dayOf 8 = .ok (.goto 7, 3) := by decide +kernel
theorem dX7_dayOf_11 : decode cX7_dayOf 11 = .ok (.aload_n 0, 1) := by decide +kernel
theorem dX7_dayOf_12 : decode cX7_dayOf 12 = .ok (.getfield 25, 3) := by decide +kernel
theorem dX7_dayOf_15 : decode cX7_dayOf 15 = .ok (.areturn, 1) := by decide +kernel
theorem dX7_ended_0 : decode cX7_ended 0 = .ok (.aload_n 0, 1) := by decide +kernel
theorem dX7_ended_1 : decode cX7_ended 1 = .ok (.iload_n 1, 1) := by decide +kernel
theorem dX7_ended_2 : decode cX7_ended 2 = .ok (.invokevirtual 90, 3) := by decide +kernel
theorem dX7_ended_5 : decode cX7_ended 5 = .ok (.astore_n 2, 1) := by decide +kernel
theorem dX7_ended_6 : decode cX7_ended 6 = .ok (.aload_n 2, 1) := by decide +kernel
theorem dX7_ended_7 : decode cX7_ended 7 = .ok (.bipush 40, 2) := by decide +kernel
theorem dX7_ended_9 : decode cX7_ended 9 = .ok (.invokevirtual 134, 3) := by decide +kernel
theorem dX7_ended_12 : decode cX7_ended 12 = .ok (.aload_n 2, 1) := by decide +kernel
theorem dX7_ended_13 : decode cX7_ended 13 = .ok (.areturn, 1) := by decide +kernel
theorem dX7_found_0 : decode cX7_found 0 = .ok (.aload_n 0, 1) := by decide +kernel
theorem dX7_found_1 : decode cX7_found 1 = .ok (.iload_n 1, 1) := by decide +kernel
theorem dX7_found_2 : decode cX7_found 2 = .ok (.putfield 55, 3) := by decide +kernel
theorem dX7_found_5 : decode cX7_found 5 = .ok (.bipush (-10), 2) := by decide +kernel
theorem dX7_found_7 : decode cX7_found 7 = .ok (.iload_n 1, 1) := by decide +kernel
theorem dX7_found_8 : decode cX7_found 8 = .ok (.isub, 1) := by decide +kernel
theorem dX7_found_9 : decode cX7_found 9 = .ok (.ireturn, 1) := by decide +kernel
theorem dX7_codeOfByte_0 : decode cX7_codeOfByte 0 = .ok (.iload_n 0, 1) := by decide +kernel
theorem dX7_codeOfByte_1 : decode cX7_codeOfByte 1 = .ok (.bipush 97, 2) := by decide +kernel
theorem dX7_codeOfByte_3 : decode cX7_codeOfByte 3 = .ok (.if_icmp .lt 14, 3) := by decide +kernel
theorem dX7_codeOfByte_6 : decode cX7_codeOfByte 6 = .ok (.iload_n 0, 1) := by decide +kernel
theorem dX7_codeOfByte_7 : decode cX7_codeOfByte 7 = .ok (.bipush 104, 2) := by decide +kernel
theorem dX7_codeOfByte_9 : decode cX7_codeOfByte 9 = .ok (.if_icmp .gt 8, 3) := by decide +kernel
theorem dX7_codeOfByte_12 : decode cX7_codeOfByte 12 = .ok (.iload_n 0, 1) := by decide +kernel
theorem dX7_codeOfByte_13 : decode cX7_codeOfByte 13 = .ok (.bipush 97, 2) := by decide +kernel
theorem dX7_codeOfByte_15 : decode cX7_codeOfByte 15 = .ok (.isub, 1) := by decide +kernel
theorem dX7_codeOfByte_16 : decode cX7_codeOfByte 16 = .ok (.ireturn, 1) := by decide +kernel
theorem dX7_codeOfByte_17 : decode cX7_codeOfByte 17 = .ok (.iload_n 0, 1) := by decide +kernel
theorem dX7_codeOfByte_18 : decode cX7_codeOfByte 18 = .ok (.bipush 65, 2) := by decide +kernel
theorem dX7_codeOfByte_20 : decode cX7_codeOfByte 20 = .ok (.if_icmp .lt 19, 3) := by decide +kernel
theorem dX7_codeOfByte_23 : decode cX7_codeOfByte 23 = .ok (.iload_n 0, 1) := by decide +kernel
theorem dX7_codeOfByte_24 : decode cX7_codeOfByte 24 = .ok (.bipush 72, 2) := by decide +kernel
theorem dX7_codeOfByte_26 : decode cX7_codeOfByte 26 = .ok (.if_icmp .gt 13, 3) := by decide +kernel
theorem dX7_codeOfByte_29 : decode cX7_codeOfByte 29 = .ok (.iload_n 0, 1) := by decide +kernel
theorem dX7_codeOfByte_30 : decode cX7_codeOfByte 30 = .ok (.bipush 65, 2) := by decide +kernel
theorem dX7_codeOfByte_32 : decode cX7_codeOfByte 32 = .ok (.isub, 1) := by decide +kernel
theorem dX7_codeOfByte_33 : decode cX7_codeOfByte 33 = .ok (.bipush 8, 2) := by decide +kernel
theorem dX7_codeOfByte_35 : decode cX7_codeOfByte 35 = .ok (.iadd, 1) := by decide +kernel
theorem dX7_codeOfByte_36 : decode cX7_codeOfByte 36 = .ok (.goto 4, 3) := by decide +kernel
theorem dX7_codeOfByte_39 : decode cX7_codeOfByte 39 = .ok (.iconst (-1), 1) := by decide +kernel
theorem dX7_codeOfByte_40 : decode cX7_codeOfByte 40 = .ok (.ireturn, 1) := by decide +kernel
theorem dX7_byteOfCode_0 : decode cX7_byteOfCode 0 = .ok (.iload_n 0, 1) := by decide +kernel
theorem dX7_byteOfCode_1 : decode cX7_byteOfCode 1 = .ok (.bipush 8, 2) := by decide +kernel
theorem dX7_byteOfCode_3 : decode cX7_byteOfCode 3 = .ok (.if_icmp .ge 10, 3) := by decide +kernel
theorem dX7_byteOfCode_6 : decode cX7_byteOfCode 6 = .ok (.bipush 97, 2) := by decide +kernel
theorem dX7_byteOfCode_8 : decode cX7_byteOfCode 8 = .ok (.iload_n 0, 1) := by decide +kernel
theorem dX7_byteOfCode_9 : decode cX7_byteOfCode 9 = .ok (.iadd, 1) := by decide +kernel
theorem dX7_byteOfCode_10 : decode cX7_byteOfCode 10 = .ok (.goto 10, 3) := by decide +kernel
theorem dX7_byteOfCode_13 : decode cX7_byteOfCode 13 = .ok (.bipush 65, 2) := by decide +kernel
theorem dX7_byteOfCode_15 : decode cX7_byteOfCode 15 = .ok (.iload_n 0, 1) := by decide +kernel
theorem dX7_byteOfCode_16 : decode cX7_byteOfCode 16 = .ok (.iadd, 1) := by decide +kernel
theorem dX7_byteOfCode_17 : decode cX7_byteOfCode 17 = .ok (.bipush 8, 2) := by decide +kernel
theorem dX7_byteOfCode_19 : decode cX7_byteOfCode 19 = .ok (.isub, 1) := by decide +kernel
theorem dX7_byteOfCode_20 : decode cX7_byteOfCode 20 = .ok (.ireturn, 1) := by decide +kernel
theorem dX8_init_0 : decode cX8_init 0 = .ok (.aload_n 0, 1) := by decide +kernel
theorem dX8_init_1 : decode cX8_init 1 = .ok (.invokespecial 1, 3) := by decide +kernel
theorem dX8_init_4 : decode cX8_init 4 = .ok (.aload_n 0, 1) := by decide +kernel
theorem dX8_init_5 : decode cX8_init 5 = .ok (.iconst 4, 1) := by decide +kernel
theorem dX8_init_6 : decode cX8_init 6 = .ok (.newarray .int, 2) := by decide +kernel
theorem dX8_init_8 : decode cX8_init 8 = .ok (.putfield 7, 3) := by decide +kernel
theorem dX8_init_11 : decode cX8_init 11 = .ok (.aload_n 0, 1) := by decide +kernel
theorem dX8_init_12 : decode cX8_init 12 = .ok (.iconst 4, 1) := by decide +kernel
theorem dX8_init_13 : decode cX8_init 13 = .ok (.newarray .int, 2) := by decide +kernel
theorem dX8_init_15 : decode cX8_init 15 = .ok (.putfield 13, 3) := by decide +kernel
theorem dX8_init_18 : decode cX8_init 18 = .ok (.aload_n 0, 1) := by decide +kernel
theorem dX8_init_19 : decode cX8_init 19 = .ok (.sipush 240, 3) := by decide +kernel
theorem dX8_init_22 : decode cX8_init 22 = .ok (.newarray .int, 2) := by decide +kernel
theorem dX8_init_24 : decode cX8_init 24 = .ok (.putfield 16, 3) := by decide +kernel
theorem dX8_init_27 : decode cX8_init 27 = .ok (.aload_n 0, 1) := by decide +kernel
theorem dX8_init_28 : decode cX8_init 28 = .ok (.bipush 60, 2) := by decide +kernel
theorem dX8_init_30 : decode cX8_init 30 = .ok (.newarray .int, 2) := by decide +kernel
theorem dX8_init_32 : decode cX8_init 32 = .ok (.putfield 19, 3) := by decide +kernel
theorem dX8_init_35 : decode cX8_init 35 = .ok (.aload_n 0, 1) := by decide +kernel
theorem dX8_init_36 : decode cX8_init 36 = .ok (.bipush 120, 2) := by decide +kernel
theorem dX8_init_38 : decode cX8_init 38 = .ok (.newarray .int, 2) := by decide +kernel
theorem dX8_init_40 : decode cX8_init 40 = .ok (.putfield 22, 3) := by decide +kernel
theorem dX8_init_43 : decode cX8_init 43 = .ok (.aload_n 0, 1) := by decide +kernel
theorem dX8_init_44 : decode cX8_init 44 = .ok (.iconst 3, 1) := by decide +kernel
theorem dX8_init_45 : decode cX8_init 45 = .ok (.newarray .int, 2) := by decide +kernel
theorem dX8_init_47 : decode cX8_init 47 = .ok (.putfield 25, 3) := by decide +kernel
theorem dX8_init_50 : decode cX8_init 50 = .ok (.aload_n 0, 1) := by decide +kernel
theorem dX8_init_51 : decode cX8_init 51 = .ok (.bipush 24, 2) := by decide +kernel
theorem dX8_init_53 : decode cX8_init 53 = .ok (.newarray .int, 2) := by decide +kernel
theorem dX8_init_55 : decode cX8_init 55 = .ok (.putfield 28, 3) := by decide +kernel
theorem dX8_init_58 : decode cX8_init 58 = .ok (.aload_n 0, 1) := by decide +kernel
theorem dX8_init_59 : decode cX8_init 59 = .ok (.iconst 2, 1) := by decide +kernel
theorem dX8_init_60 : decode cX8_init 60 = .ok (.newarray .int, 2) := by decide +kernel
theorem dX8_init_62 : decode cX8_init 62 = .ok (.putfield 31, 3) := by decide +kernel
theorem dX8_init_65 : decode cX8_init 65 = .ok (.aload_n 0, 1) := by decide +kernel
theorem dX8_init_66 : decode cX8_init 66 = .ok (.iconst 3, 1) := by decide +kernel
theorem dX8_init_67 : decode cX8_init 67 = .ok (.newarray .int, 2) := by decide +kernel
theorem dX8_init_69 : decode cX8_init 69 = .ok (.putfield 34, 3) := by decide +kernel
theorem dX8_init_72 : decode cX8_init 72 = .ok (.aload_n 0, 1) := by decide +kernel
theorem dX8_init_73 : decode cX8_init 73 = .ok (.bipush 8, 2) := by decide +kernel
theorem dX8_init_75 : decode cX8_init 75 = .ok (.newarray .int, 2) := by decide +kernel
theorem dX8_init_77 : decode cX8_init 77 = .ok (.putfield 37, 3) := by decide +kernel
theorem dX8_init_80 : decode cX8_init 80 = .ok (.aload_n 0, 1) := by decide +kernel
theorem dX8_init_81 : decode cX8_init 81 = .ok (.iconst 2, 1) := by decide +kernel
theorem dX8_init_82 : decode cX8_init 82 = .ok (.newarray .int, 2) := by decide +kernel
theorem dX8_init_84 : decode cX8_init 84 = .ok (.putfield 40, 3) := by decide +kernel
theorem dX8_init_87 : decode cX8_init 87 = .ok (.aload_n 0, 1) := by decide +kernel
theorem dX8_init_88 : decode cX8_init 88 = .ok (.bipush 64, 2) := by decide +kernel
theorem dX8_init_90 : decode cX8_init 90 = .ok (.newarray .int, 2) := by decide +kernel
theorem dX8_init_92 : decode cX8_init 92 = .ok (.putfield 43, 3) := by decide +kernel
theorem dX8_init_95 : decode cX8_init 95 = .ok (.aload_n 0, 1) := by decide +kernel
theorem dX8_init_96 : decode cX8_init 96 = .ok (.iconst 2, 1) := by decide +kernel
theorem dX8_init_97 : decode cX8_init 97 = .ok (.newarray .int, 2) := by decide +kernel
theorem dX8_init_99 : decode cX8_init 99 = .ok (.putfield 46, 3) := by decide +kernel
theorem dX8_init_102 : decode cX8_init 102 = .ok (.aload_n 0, 1) := by decide +kernel
theorem dX8_init_103 : decode cX8_init 103 = .ok (.iconst 2, 1) := by decide +kernel
theorem dX8_init_104 : decode cX8_init 104 = .ok (.newarray .int, 2) := by decide +kernel
theorem dX8_init_106 : decode cX8_init 106 = .ok (.putfield 49, 3) := by decide +kernel
theorem dX8_init_109 : decode cX8_init 109 = .ok (.aload_n 0, 1) := by decide +kernel
theorem dX8_init_110 : decode cX8_init 110 = .ok (.sipush 1024, 3) := by decide +kernel
theorem dX8_init_113 : decode cX8_init 113 = .ok (.newarray .long, 2) := by decide +kernel
theorem dX8_init_115 : decode cX8_init 115 = .ok (.putfield 52, 3) := by decide +kernel
theorem dX8_init_118 : decode cX8_init 118 = .ok (.aload_n 0, 1) := by decide +kernel
theorem dX8_init_119 : decode cX8_init 119 = .ok (.bipush 64, 2) := by decide +kernel
theorem dX8_init_121 : decode cX8_init 121 = .ok (.newarray .int, 2) := by decide +kernel
theorem dX8_init_123 : decode cX8_init 123 = .ok (.putfield 56, 3) := by decide +kernel
theorem dX8_init_126 : decode cX8_init 126 = .ok (.aload_n 0, 1) := by decide +kernel
theorem dX8_init_127 : decode cX8_init 127 = .ok (.bipush 8, 2) := by decide +kernel
theorem dX8_init_129 : decode cX8_init 129 = .ok (.newarray .int, 2) := by decide +kernel
theorem dX8_init_131 : decode cX8_init 131 = .ok (.putfield 59, 3) := by decide +kernel
theorem dX8_init_134 : decode cX8_init 134 = .ok (.aload_n 0, 1) := by decide +kernel
theorem dX8_init_135 : decode cX8_init 135 = .ok (.bipush 6, 2) := by decide +kernel
theorem dX8_init_137 : decode cX8_init 137 = .ok (.newarray .long, 2) := by decide +kernel
theorem dX8_init_139 : decode cX8_init 139 = .ok (.putfield 62, 3) := by decide +kernel
theorem dX8_init_142 : decode cX8_init 142 = .ok (.aload_n 0, 1) := by decide +kernel
theorem dX8_init_143 : decode cX8_init 143 = .ok (.bipush 6, 2) := by decide +kernel
theorem dX8_init_145 : decode cX8_init 145 = .ok (.newarray .int, 2) := by decide +kernel
theorem dX8_init_147 : decode cX8_init 147 = .ok (.putfield 65, 3) := by decide +kernel
theorem dX8_init_150 : decode cX8_init 150 = .ok (.aload_n 0, 1) := by decide +kernel
theorem dX8_init_151 : decode cX8_init 151 = .ok (.bipush 6, 2) := by decide +kernel
theorem dX8_init_153 : decode cX8_init 153 = .ok (.newarray .int, 2) := by decide +kernel
theorem dX8_init_155 : decode cX8_init 155 = .ok (.putfield 68, 3) := by decide +kernel
theorem dX8_init_158 : decode cX8_init 158 = .ok (.aload_n 0, 1) := by decide +kernel
theorem dX8_init_159 : decode cX8_init 159 = .ok (.bipush 6, 2) := by decide +kernel
theorem dX8_init_161 : decode cX8_init 161 = .ok (.newarray .int, 2) := by decide +kernel
theorem dX8_init_163 : decode cX8_init 163 = .ok (.putfield 71, 3) := by decide +kernel
theorem dX8_init_166 : decode cX8_init 166 = .ok (.aload_n 0, 1) := by decide +kernel
theorem dX8_init_167 : decode cX8_init 167 = .ok (.bipush 6, 2) := by decide +kernel
theorem dX8_init_169 : decode cX8_init 169 = .ok (.newarray .int, 2) := by decide +kernel
theorem dX8_init_171 : decode cX8_init 171 = .ok (.putfield 74, 3) := by decide +kernel
theorem dX8_init_174 : decode cX8_init 174 = .ok (.iconst 0, 1) := by decide +kernel
theorem dX8_init_175 : decode cX8_init 175 = .ok (.istore_n 1, 1) := by decide +kernel
theorem dX8_init_176 : decode cX8_init 176 = .ok (.iload_n 1, 1) := by decide +kernel
theorem dX8_init_177 : decode cX8_init 177 = .ok (.iconst 4, 1) := by decide +kernel
theorem dX8_init_178 : decode cX8_init 178 = .ok (.if_icmp .ge 16, 3) := by decide +kernel
theorem dX8_init_181 : decode cX8_init 181 = .ok (.aload_n 0, 1) := by decide +kernel
theorem dX8_init_182 : decode cX8_init 182 = .ok (.getfield 7, 3) := by decide +kernel
theorem dX8_init_185 : decode cX8_init 185 = .ok (.iload_n 1, 1) := by decide +kernel
theorem dX8_init_186 : decode cX8_init 186 = .ok (.iconst (-1), 1) := by decide +kernel
theorem dX8_init_187 : decode cX8_init 187 = .ok (.iastore, 1) := by decide +kernel
theorem dX8_init_188 : decode cX8_init 188 = .ok (.iinc 1 1, 3) := by decide +kernel
theorem dX8_init_191 : decode cX8_init 191 = .ok (.goto (-15), 3) := by decide +kernel
theorem dX8_init_194 : decode cX8_init 194 = .ok (.aload_n 0, 1) := by decide +kernel
theorem dX8_init_195 : decode cX8_init 195 = .ok (.getfield 34, 3) := by decide +kernel
theorem dX8_init_198 : decode cX8_init 198 = .ok (.iconst 0, 1) := by decide +kernel
theorem dX8_init_199 : decode cX8_init 199 = .ok (.iconst 5, 1) := by decide +kernel
theorem dX8_init_200 : decode cX8_init 200 = .ok (.iastore, 1) := by decide +kernel
theorem dX8_init_201 : decode cX8_init 201 = .ok (.aload_n 0, 1) := by decide +kernel
theorem dX8_init_202 : decode cX8_init 202 = .ok (.getfield 34, 3) := by decide +kernel
theorem dX8_init_205 : decode cX8_init 205 = .ok (.iconst 1, 1) := by decide +kernel
theorem dX8_init_206 : decode cX8_init 206 = .ok (.iconst 5, 1) := by decide +kernel
theorem dX8_init_207 : decode cX8_init 207 = .ok (.iastore, 1) := by decide +kernel
theorem dX8_init_208 : decode cX8_init 208 = .ok (.aload_n 0, 1) := by decide +kernel
theorem dX8_init_209 : decode cX8_init 209 = .ok (.getfield 34, 3) := by decide +kernel
theorem dX8_init_212 : decode cX8_init 212 = .ok (.iconst 2, 1) := by decide +kernel
theorem dX8_init_213 : decode cX8_init 213 = .ok (.bipush 9, 2) := by decide +kernel
theorem dX8_init_215 : decode cX8_init 215 = .ok (.iastore, 1) := by decide +kernel
theorem dX8_init_216 : decode cX8_init 216 = .ok (.return_, 1) := by decide +kernel
theorem dX8_in_0 : decode cX8_in 0 = .ok (.lload_n 0, 1) := by decide +kernel
theorem dX8_in_1 : decode cX8_in 1 = .ok (.lload_n 2, 1) := by decide +kernel
theorem dX8_in_2 : decode cX8_in 2 = .ok (.lcmp, 1) := by decide +kernel
theorem dX8_in_3 : decode cX8_in 3 = .ok (.ifCond .lt 14, 3) := by decide +kernel
theorem dX8_in_6 : decode cX8_in 6 = .ok (.lload_n 0, 1) := by decide +kernel
theorem dX8_in_7 : decode cX8_in 7 = .ok (.lload 4, 2) := by decide +kernel
theorem dX8_in_9 : decode cX8_in 9 = .ok (.lcmp, 1) := by decide +kernel
theorem dX8_in_10 : decode cX8_in 10 = .ok (.ifCond .gt 7, 3) := by decide +kernel
theorem dX8_in_13 : decode cX8_in 13 = .ok (.iconst 1, 1) := by decide +kernel
theorem dX8_in_14 : decode cX8_in 14 = .ok (.goto 4, 3) := by decide +kernel
theorem dX8_in_17 : decode cX8_in 17 = .ok (.iconst 0, 1) := by decide +kernel
theorem dX8_in_18 : decode cX8_in 18 = .ok (.ireturn, 1) := by decide +kernel
theorem dX8_isTwo_0 : decode cX8_isTwo 0 = .ok (.iload_n 0, 1) := by decide +kernel
theorem dX8_isTwo_1 : decode cX8_isTwo 1 = .ok (.i2l, 1) := by decide +kernel
theorem dX8_isTwo_2 : decode cX8_isTwo 2 = .ok (.lconst 0, 1) := by decide +kernel
theorem dX8_isTwo_3 : decode cX8_isTwo 3 = .ok (.lconst 1, 1) := by decide +kernel
theorem dX8_isTwo_4 : decode cX8_isTwo 4 = .ok (.invokestatic 77, 3) := by decide +kernel
theorem dX8_isTwo_7 : decode cX8_isTwo 7 = .ok (.ireturn, 1) := by decide +kernel
theorem dX8_met_0 : decode cX8_met 0 = .ok (.aload_n 0, 1) := by decide +kernel
theorem dX8_met_1 : decode cX8_met 1 = .ok (.iload_n 1, 1) := by decide +kernel
theorem dX8_met_2 : decode cX8_met 2 = .ok (.putfield 81, 3) := by decide +kernel
theorem dX8_met_5 : decode cX8_met 5 = .ok (.bipush (-10), 2) := by decide +kernel
theorem dX8_met_7 : decode cX8_met 7 = .ok (.iload_n 1, 1) := by decide +kernel
theorem dX8_met_8 : decode cX8_met 8 = .ok (.isub, 1) := by decide +kernel
theorem dX8_met_9 : decode cX8_met 9 = .ok (.ireturn, 1) := by decide +kernel
theorem dX8_isSheet_0 : decode cX8_isSheet 0 = .ok (.iload_n 0, 1) := by decide +kernel
theorem dX8_isSheet_1 : decode cX8_isSheet 1 = .ok (.i2l, 1) := by decide +kernel
theorem dX8_isSheet_2 : decode cX8_isSheet 2 = .ok (.lconst 0, 1) := by decide +kernel
theorem dX8_isSheet_3 : decode cX8_isSheet 3 = .ok (.ldc2_w 85, 3) := by decide +kernel
theorem dX8_isSheet_6 : decode cX8_isSheet 6 = .ok (.invokestatic 77, 3) := by decide +kernel
theorem dX8_isSheet_9 : decode cX8_isSheet 9 = .ok (.ireturn, 1) := by decide +kernel
theorem dX8_sheet_0 : decode cX8_sheet 0 = .ok (.iload_n 1, 1) := by decide +kernel
theorem dX8_sheet_1 : decode cX8_sheet 1 = .ok (.invokestatic 87, 3) := by decide +kernel
theorem dX8_sheet_4 : decode cX8_sheet 4 = .ok (.ifCond .eq 21, 3) := by decide +kernel
theorem dX8_sheet_7 : decode cX8_sheet 7 = .ok (.iload_n 2, 1) := by decide +kernel
theorem dX8_sheet_8 : decode cX8_sheet 8 = .ok (.i2l, 1) := by decide +kernel
theorem dX8_sheet_9 : decode cX8_sheet 9 = .ok (.lconst 0, 1) := by decide +kernel
theorem dX8_sheet_10 : decode cX8_sheet 10 = .ok (.ldc2_w 91, 3) := by decide +kernel
theorem dX8_sheet_13 : decode cX8_sheet 13 = .ok (.invokestatic 77, 3) := by decide +kernel
theorem dX8_sheet_16 : decode cX8_sheet 16 = .ok (.ifCond .eq 9, 3) := by decide +kernel
theorem dX8_sheet_19 : decode cX8_sheet 19 = .ok (.iload_n 3, 1) := by decide +kernel
theorem dX8_sheet_20 : decode cX8_sheet 20 = .ok (.bipush 60, 2) := by decide +kernel
theorem dX8_sheet_22 : decode cX8_sheet 22 = .ok (.if_icmp .le 6, 3) := by decide +kernel
theorem dX8_sheet_25 : decode cX8_sheet 25 = .ok (.bipush (-2), 2) := by decide +kernel
theorem dX8_sheet_27 : decode cX8_sheet 27 = .ok (.ireturn, 1) := by decide +kernel
theorem dX8_sheet_28 : decode cX8_sheet 28 = .ok (.iload_n 3, 1) := by decide +kernel
theorem dX8_sheet_29 : decode cX8_sheet 29 = .ok (.ifCond .ge 9, 3) := by decide +kernel
theorem dX8_sheet_32 : decode cX8_sheet 32 = .ok (.aload_n 0, 1) := by decide +kernel
theorem dX8_sheet_33 : decode cX8_sheet 33 = .ok (.iconst 5, 1) := by decide +kernel
theorem dX8_sheet_34 : decode cX8_sheet 34 = .ok (.invokevirtual 93, 3) := by decide +kernel
theorem dX8_sheet_37 : decode cX8_sheet 37 = .ok (.ireturn, 1) := by decide +kernel
theorem dX8_sheet_38 : decode cX8_sheet 38 = .ok (.aload_n 0, 1) := by decide +kernel
theorem dX8_sheet_39 : decode cX8_sheet 39 = .ok (.getfield 7, 3) := by decide +kernel
theorem dX8_sheet_42 : decode cX8_sheet 42 = .ok (.iload_n 1, 1) := by decide +kernel
theorem dX8_sheet_43 : decode cX8_sheet 43 = .ok (.iload_n 2, 1) := by decide +kernel
theorem dX8_sheet_44 : decode cX8_sheet 44 = .ok (.iastore, 1) := by decide +kernel
theorem dX8_sheet_45 : decode cX8_sheet 45 = .ok (.aload_n 0, 1) := by decide +kernel
theorem dX8_sheet_46 : decode cX8_sheet 46 = .ok (.getfield 13, 3) := by decide +kernel
theorem dX8_sheet_49 : decode cX8_sheet 49 = .ok (.iload_n 1, 1) := by decide +kernel
theorem dX8_sheet_50 : decode cX8_sheet 50 = .ok (.iload_n 3, 1) := by decide +kernel
theorem dX8_sheet_51 : decode cX8_sheet 51 = .ok (.iastore, 1) := by decide +kernel
theorem dX8_sheet_52 : decode cX8_sheet 52 = .ok (.iconst 0, 1) := by decide +kernel
theorem dX8_sheet_53 : decode cX8_sheet 53 = .ok (.istore 4, 2) := by decide +kernel
theorem dX8_sheet_55 : decode cX8_sheet 55 = .ok (.iload 4, 2) := by decide +kernel
theorem dX8_sheet_57 : decode cX8_sheet 57 = .ok (.iload_n 3, 1) := by decide +kernel
theorem dX8_sheet_58 : decode cX8_sheet 58 = .ok (.if_icmp .ge 22, 3) := by decide +kernel
theorem dX8_sheet_61 : decode cX8_sheet 61 = .ok (.aload_n 0, 1) := by decide +kernel
theorem dX8_sheet_62 : decode cX8_sheet 62 = .ok (.getfield 16, 3) := by decide +kernel
theorem dX8_sheet_65 : decode cX8_sheet 65 = .ok (.bipush 60, 2) := by decide +kernel
theorem dX8_sheet_67 : decode cX8_sheet 67 = .ok (.iload_n 1, 1) := by decide +kernel
theorem dX8_sheet_68 : decode cX8_sheet 68 = .ok (.imul, 1) := by decide +kernel
theorem dX8_sheet_69 : decode cX8_sheet 69 = .ok (.iload 4, 2) := by decide +kernel
theorem dX8_sheet_71 : decode cX8_sheet 71 = .ok (.iadd, 1) := by decide +kernel
theorem dX8_sheet_72 : decode cX8_sheet 72 = .ok (.iconst 0, 1) := by decide +kernel
theorem dX8_sheet_73 : decode cX8_sheet 73 = .ok (.iastore, 1) := by decide +kernel
theorem dX8_sheet_74 : decode cX8_sheet 74 = .ok (.iinc 4 1, 3) := by decide +kernel
theorem dX8_sheet_77 : decode cX8_sheet 77 = .ok (.goto (-22), 3) := by decide +kernel
theorem dX8_sheet_80 : decode cX8_sheet 80 = .ok (.iload_n 3, 1) := by decide +kernel
theorem dX8_sheet_81 : decode cX8_sheet 81 = .ok (.ireturn, 1) := by decide +kernel
theorem dX8_lose_0 : decode cX8_lose 0 = .ok (.iload_n 1, 1) := by decide +kernel
theorem dX8_lose_1 : decode cX8_lose 1 = .ok (.invokestatic 87, 3) := by decide +kernel
theorem dX8_lose_4 : decode cX8_lose 4 = .ok (.ifCond .ne 6, 3) := by decide +kernel
theorem dX8_lose_7 : decode cX8_lose 7 = .ok (.bipush (-2), 2) := by decide +kernel
theorem dX8_lose_9 : decode cX8_lose 9 = .ok (.ireturn, 1) := by decide +kernel
theorem dX8_lose_10 : decode cX8_lose 10 = .ok (.aload_n 0, 1) := by decide +kernel
theorem dX8_lose_11 : decode cX8_lose 11 = .ok (.getfield 7, 3) := by decide +kernel
theorem dX8_lose_14 : decode cX8_lose 14 = .ok (.iload_n 1, 1) := by decide +kernel
theorem dX8_lose_15 : decode cX8_lose 15 = .ok (.iaload, 1) := by decide +kernel
theorem dX8_lose_16 : decode cX8_lose 16 = .ok (.ifCond .ge 9, 3) := by decide +kernel
theorem dX8_lose_19 : decode cX8_lose 19 = .ok (.aload_n 0, 1) := by decide +kernel
theorem dX8_lose_20 : decode cX8_lose 20 = .ok (.iconst 1, 1) := by decide +kernel
theorem dX8_lose_21 : decode cX8_lose 21 = .ok (.invokevirtual 93, 3) := by decide +kernel
theorem dX8_lose_24 : decode cX8_lose 24 = .ok (.ireturn, 1) := by decide +kernel
theorem dX8_lose_25 : decode cX8_lose 25 = .ok (.aload_n 0, 1) := by decide +kernel
theorem dX8_lose_26 : decode cX8_lose 26 = .ok (.getfield 7, 3) := by decide +kernel
theorem dX8_lose_29 : decode cX8_lose 29 = .ok (.iload_n 1, 1) := by decide +kernel
theorem dX8_lose_30 : decode cX8_lose 30 = .ok (.iconst (-1), 1) := by decide +kernel
theorem dX8_lose_31 : decode cX8_lose 31 = .ok (.iastore, 1) := by decide +kernel
theorem dX8_lose_32 : decode cX8_lose 32 = .ok (.aload_n 0, 1) := by decide +kernel
theorem dX8_lose_33 : decode cX8_lose 33 = .ok (.getfield 13, 3) := by decide +kernel
theorem dX8_lose_36 : decode cX8_lose 36 = .ok (.iload_n 1, 1) := by decide +kernel
theorem dX8_lose_37 : decode cX8_lose 37 = .ok (.iaload, 1) := by decide +kernel
theorem dX8_lose_38 : decode cX8_lose 38 = .ok (.ireturn, 1) := by decide +kernel
theorem dX8_lacks_0 : decode cX8_lacks 0 = .ok (.aload_n 0, 1) := by decide +kernel
theorem dX8_lacks_1 : decode cX8_lacks 1 = .ok (.getfield 7, 3) := by decide +kernel
theorem dX8_lacks_4 : decode cX8_lacks 4 = .ok (.iload_n 1, 1) := by decide +kernel
theorem dX8_lacks_5 : decode cX8_lacks 5 = .ok (.iaload, 1) := by decide +kernel
theorem dX8_lacks_6 : decode cX8_lacks 6 = .ok (.ifCond .ge 9, 3) := by decide +kernel
theorem dX8_lacks_9 : decode cX8_lacks 9 = .ok (.aload_n 0, 1) := by decide +kernel
theorem dX8_lacks_10 : decode cX8_lacks 10 = .ok (.iconst 1, 1) := by decide +kernel
theorem dX8_lacks_11 : decode cX8_lacks 11 = .ok (.invokevirtual 93, 3) := by decide +kernel
theorem dX8_lacks_14 : decode cX8_lacks 14 = .ok (.ireturn, 1) := by decide +kernel
theorem dX8_lacks_15 : decode cX8_lacks 15 = .ok (.aload_n 0, 1) := by decide +kernel
theorem dX8_lacks_16 : decode cX8_lacks 16 = .ok (.getfield 7, 3) := by decide +kernel
theorem dX8_lacks_19 : decode cX8_lacks 19 = .ok (.iload_n 1, 1) := by decide +kernel
theorem dX8_lacks_20 : decode cX8_lacks 20 = .ok (.iaload, 1) := by decide +kernel
theorem dX8_lacks_21 : decode cX8_lacks 21 = .ok (.iload_n 2, 1) := by decide +kernel
theorem dX8_lacks_22 : decode cX8_lacks 22 = .ok (.if_icmp .eq 9, 3) := by decide +kernel
theorem dX8_lacks_25 : decode cX8_lacks 25 = .ok (.aload_n 0, 1) := by decide +kernel
theorem dX8_lacks_26 : decode cX8_lacks 26 = .ok (.iconst 3, 1) := by decide +kernel
theorem dX8_lacks_27 : decode cX8_lacks 27 = .ok (.invokevirtual 93, 3) := by decide +kernel
theorem dX8_lacks_30 : decode cX8_lacks 30 = .ok (.ireturn, 1) := by decide +kernel
theorem dX8_lacks_31 : decode cX8_lacks 31 = .ok (.iload_n 3, 1) := by decide +kernel
theorem dX8_lacks_32 : decode cX8_lacks 32 = .ok (.i2l, 1) := by decide +kernel
theorem dX8_lacks_33 : decode cX8_lacks 33 = .ok (.lconst 0, 1) := by decide +kernel
theorem dX8_lacks_34 : decode cX8_lacks 34 = .ok (.aload_n 0, 1) := by decide +kernel
theorem dX8_lacks_35 : decode cX8_lacks 35 = .ok (.getfield 13, 3) := by decide +kernel
theorem dX8_lacks_38 : decode cX8_lacks 38 = .ok (.iload_n 1, 1) := by decide +kernel
theorem dX8_lacks_39 : decode cX8_lacks 39 = .ok (.iaload, 1) := by decide +kernel
theorem dX8_lacks_40 : decode cX8_lacks 40 = .ok (.iconst 1, 1) := by decide +kernel
theorem dX8_lacks_41 : decode cX8_lacks 41 = .ok (.isub, 1) := by decide +kernel
theorem dX8_lacks_42 : decode cX8_lacks 42 = .ok (.i2l, 1) := by decide +kernel
theorem dX8_lacks_43 : decode cX8_lacks 43 = .ok (.invokestatic 77, 3) := by decide +kernel
theorem dX8_lacks_46 : decode cX8_lacks 46 = .ok (.ifCond .eq 7, 3) := by decide +kernel
theorem dX8_lacks_49 : decode cX8_lacks 49 = .ok (.iconst 0, 1) := by decide +kernel
theorem dX8_lacks_50 : decode cX8_lacks 50 = .ok (.goto 8, 3) := by decide +kernel
theorem dX8_lacks_53 : decode cX8_lacks 53 = .ok (.aload_n 0, 1) := by decide +kernel
theorem dX8_lacks_54 : decode cX8_lacks 54 = .ok (.iconst 2, 1) := by decide +kernel
theorem dX8_lacks_55 : decode cX8_lacks 55 = .ok (.invokevirtual 93, 3) := by decide +kernel
theorem dX8_lacks_58 : decode cX8_lacks 58 = .ok (.ireturn, 1) := by decide +kernel
theorem dX8_cut_0 : decode cX8_cut 0 = .ok (.iload_n 0, 1) := by decide +kernel
theorem dX8_cut_1 : decode cX8_cut 1 = .ok (.ifCond .ne 8, 3) := by decide +kernel
theorem dX8_cut_4 : decode cX8_cut 4 = .ok (.iload_n 1, 1) := by decide +kernel
theorem dX8_cut_5 : decode cX8_cut 5 = .ok (.i2b, 1) := by decide +kernel
theorem dX8_cut_6 : decode cX8_cut 6 = .ok (.goto 14, 3) := by decide +kernel
theorem dX8_cut_9 : decode cX8_cut 9 = .ok (.iload_n 0, 1) := by decide +kernel
theorem dX8_cut_10 : decode cX8_cut 10 = .ok (.iconst 1, 1) := by decide +kernel
theorem dX8_cut_11 : decode cX8_cut 11 = .ok (.if_icmp .ne 8, 3) := by decide +kernel
theorem dX8_cut_14 : decode cX8_cut 14 = .ok (.iload_n 1, 1) := by decide +kernel
theorem dX8_cut_15 : decode cX8_cut 15 = .ok (.i2s, 1) := by decide +kernel
theorem dX8_cut_16 : decode cX8_cut 16 = .ok (.goto 4, 3) := by decide +kernel
theorem dX8_cut_19 : decode cX8_cut 19 = .ok (.iload_n 1, 1) := by decide +kernel
theorem dX8_cut_20 : decode cX8_cut 20 = .ok (.ireturn, 1) := by decide +kernel
theorem dX8_lay_0 : decode cX8_lay 0 = .ok (.iload_n 1, 1) := by decide +kernel
theorem dX8_lay_1 : decode cX8_lay 1 = .ok (.invokestatic 87, 3) := by decide +kernel
theorem dX8_lay_4 : decode cX8_lay 4 = .ok (.ifCond .eq 15, 3) := by decide +kernel
theorem dX8_lay_7 : decode cX8_lay 7 = .ok (.iload_n 2, 1) := by decide +kernel
theorem dX8_lay_8 : decode cX8_lay 8 = .ok (.i2l, 1) := by decide +kernel
theorem dX8_lay_9 : decode cX8_lay 9 = .ok (.lconst 0, 1) := by decide +kernel
theorem dX8_lay_10 : decode cX8_lay 10 = .ok (.ldc2_w 91, 3) := by decide +kernel
theorem dX8_lay_13 : decode cX8_lay 13 = .ok (.invokestatic 77, 3) := by decide +kernel
theorem dX8_lay_16 : decode cX8_lay 16 = .ok (.ifCond .ne 6, 3) := by decide +kernel
theorem dX8_lay_19 : decode cX8_lay 19 = .ok (.bipush (-2), 2) := by decide +kernel
theorem dX8_lay_21 : decode cX8_lay 21 = .ok (.ireturn, 1) := by decide +kernel
theorem dX8_lay_22 : decode cX8_lay 22 = .ok (.aload_n 0, 1) := by decide +kernel
theorem dX8_lay_23 : decode cX8_lay 23 = .ok (.iload_n 1, 1) := by decide +kernel
theorem dX8_lay_24 : decode cX8_lay 24 = .ok (.iload_n 2, 1) := by decide +kernel
theorem dX8_lay_25 : decode cX8_lay 25 = .ok (.iload_n 3, 1) := by decide +kernel
theorem dX8_lay_26 : decode cX8_lay 26 = .ok (.invokevirtual 97, 3) := by decide +kernel
theorem dX8_lay_29 : decode cX8_lay 29 = .ok (.istore 5, 2) := by decide +kernel
theorem dX8_lay_31 : decode cX8_lay 31 = .ok (.iload 5, 2) := by decide +kernel
theorem dX8_lay_33 : decode cX8_lay 33 = .ok (.ifCond .eq 6, 3) := by decide +kernel
theorem dX8_lay_36 : decode cX8_lay 36 = .ok (.iload 5, 2) := by decide +kernel
theorem dX8_lay_38 : decode cX8_lay 38 = .ok (.ireturn, 1) := by decide +kernel
theorem dX8_lay_39 : decode cX8_lay 39 = .ok (.aload_n 0, 1) := by decide +kernel
theorem dX8_lay_40 : decode cX8_lay 40 = .ok (.getfield 16, 3) := by decide +kernel
theorem dX8_lay_43 : decode cX8_lay 43 = .ok (.bipush 60, 2) := by decide +kernel
theorem dX8_lay_45 : decode cX8_lay 45 = .ok (.iload_n 1, 1) := by decide +kernel
theorem dX8_lay_46 : decode cX8_lay 46 = .ok (.imul, 1) := by decide +kernel
theorem dX8_lay_47 : decode cX8_lay 47 = .ok (.iload_n 3, 1) := by decide +kernel
theorem dX8_lay_48 : decode cX8_lay 48 = .ok (.iadd, 1) := by decide +kernel
theorem dX8_lay_49 : decode cX8_lay 49 = .ok (.iload_n 2, 1) := by decide +kernel
theorem dX8_lay_50 : decode cX8_lay 50 = .ok (.iload 4, 2) := by decide +kernel
theorem dX8_lay_52 : decode cX8_lay 52 = .ok (.invokestatic 101, 3) := by decide +kernel
theorem dX8_lay_55 : decode cX8_lay 55 = .ok (.iastore, 1) := by decide +kernel
theorem dX8_lay_56 : decode cX8_lay 56 = .ok (.iconst 1, 1) := by decide +kernel
theorem dX8_lay_57 : decode cX8_lay 57 = .ok (.ireturn, 1) := by decide +kernel
theorem dX8_get_0 : decode cX8_get 0 = .ok (.iload_n 1, 1) := by decide +kernel
theorem dX8_get_1 : decode cX8_get 1 = .ok (.invokestatic 87, 3) := by decide +kernel
theorem dX8_get_4 : decode cX8_get 4 = .ok (.ifCond .eq 25, 3) := by decide +kernel
theorem dX8_get_7 : decode cX8_get 7 = .ok (.iload_n 2, 1) := by decide +kernel
theorem dX8_get_8 : decode cX8_get 8 = .ok (.i2l, 1) := by decide +kernel
theorem dX8_get_9 : decode cX8_get 9 = .ok (.lconst 0, 1) := by decide +kernel
theorem dX8_get_10 : decode cX8_get 10 = .ok (.ldc2_w 91, 3) := by decide +kernel
theorem dX8_get_13 : decode cX8_get 13 = .ok (.invokestatic 77, 3) := by decide +kernel
theorem dX8_get_16 : decode cX8_get 16 = .ok (.ifCond .eq 13, 3) := by decide +kernel
theorem dX8_get_19 : decode cX8_get 19 = .ok (.aload_n 0, 1) := by decide +kernel
theorem dX8_get_20 : decode cX8_get 20 = .ok (.iload_n 1, 1) := by decide +kernel
theorem dX8_get_21 : decode cX8_get 21 = .ok (.iload_n 2, 1) := by decide +kernel
theorem dX8_get_22 : decode cX8_get 22 = .ok (.iload_n 3, 1) := by decide +kernel
theorem dX8_get_23 : decode cX8_get 23 = .ok (.invokevirtual 97, 3) := by decide +kernel
theorem dX8_get_26 : decode cX8_get 26 = .ok (.ifCond .eq 6, 3) := by decide +kernel
theorem dX8_get_29 : decode cX8_get 29 = .ok (.ldc 105, 2) := by decide +kernel
theorem dX8_get_31 : decode cX8_get 31 = .ok (.ireturn, 1) := by decide +kernel
theorem dX8_get_32 : decode cX8_get 32 = .ok (.aload_n 0, 1) := by decide +kernel
theorem dX8_get_33 : decode cX8_get 33 = .ok (.getfield 16, 3) := by decide +kernel
theorem dX8_get_36 : decode cX8_get 36 = .ok (.bipush 60, 2) := by decide +kernel
theorem dX8_get_38 : decode cX8_get 38 = .ok (.iload_n 1, 1) := by decide +kernel
theorem dX8_get_39 : decode cX8_get 39 = .ok (.imul, 1) := by decide +kernel
theorem dX8_get_40 : decode cX8_get 40 = .ok (.iload_n 3, 1) := by decide +kernel
theorem dX8_get_41 : decode cX8_get 41 = .ok (.iadd, 1) := by decide +kernel
theorem dX8_get_42 : decode cX8_get 42 = .ok (.iaload, 1) := by decide +kernel
theorem dX8_get_43 : decode cX8_get 43 = .ok (.ireturn, 1) := by decide +kernel
theorem dX8_copy_0 : decode cX8_copy 0 = .ok (.iload_n 1, 1) := by decide +kernel
theorem dX8_copy_1 : decode cX8_copy 1 = .ok (.invokestatic 87, 3) := by decide +kernel
theorem dX8_copy_4 : decode cX8_copy 4 = .ok (.ifCond .eq 10, 3) := by decide +kernel
theorem dX8_copy_7 : decode cX8_copy 7 = .ok (.iload_n 3, 1) := by decide +kernel
theorem dX8_copy_8 : decode cX8_copy 8 = .ok (.invokestatic 87, 3) := by decide +kernel
theorem dX8_copy_11 : decode cX8_copy 11 = .ok (.ifCond .ne 6, 3) := by decide +kernel
theorem dX8_copy_14 : decode cX8_copy 14 = .ok (.bipush (-2), 2) := by decide +kernel
theorem dX8_copy_16 : decode cX8_copy 16 = .ok (.ireturn, 1) := by decide +kernel
theorem dX8_copy_17 : decode cX8_copy 17 = .ok (.aload_n 0, 1) := by decide +kernel
theorem dX8_copy_18 : decode cX8_copy 18 = .ok (.getfield 7, 3) := by decide +kernel
theorem dX8_copy_21 : decode cX8_copy 21 = .ok (.iload_n 1, 1) := by decide +kernel
theorem dX8_copy_22 : decode cX8_copy 22 = .ok (.iaload, 1) := by decide +kernel
theorem dX8_copy_23 : decode cX8_copy 23 = .ok (.ifCond .lt 12, 3) := by decide +kernel
theorem dX8_copy_26 : decode cX8_copy 26 = .ok (.aload_n 0, 1) := by decide +kernel
theorem dX8_copy_27 : decode cX8_copy 27 = .ok (.getfield 7, 3) := by decide +kernel
theorem dX8_copy_30 : decode cX8_copy 30 = .ok (.iload_n 3, 1) := by decide +kernel
theorem dX8_copy_31 : decode cX8_copy 31 = .ok (.iaload, 1) := by decide +kernel
theorem dX8_copy_32 : decode cX8_copy 32 = .ok (.ifCond .ge 9, 3) := by decide +kernel
theorem dX8_copy_35 : decode cX8_copy 35 = .ok (.aload_n 0, 1) := by decide +kernel
theorem dX8_copy_36 : decode cX8_copy 36 = .ok (.iconst 1, 1) := by decide +kernel
theorem dX8_copy_37 : decode cX8_copy 37 = .ok (.invokevirtual 93, 3) := by decide +kernel
theorem dX8_copy_40 : decode cX8_copy 40 = .ok (.ireturn, 1) := by decide +kernel
theorem dX8_copy_41 : decode cX8_copy 41 = .ok (.aload_n 0, 1) := by decide +kernel
theorem dX8_copy_42 : decode cX8_copy 42 = .ok (.getfield 7, 3) := by decide +kernel
theorem dX8_copy_45 : decode cX8_copy 45 = .ok (.iload_n 1, 1) := by decide +kernel
theorem dX8_copy_46 : decode cX8_copy 46 = .ok (.iaload, 1) := by decide +kernel
theorem dX8_copy_47 : decode cX8_copy 47 = .ok (.aload_n 0, 1) := by decide +kernel
theorem dX8_copy_48 : decode cX8_copy 48 = .ok (.getfield 7, 3) := by decide +kernel
theorem dX8_copy_51 : decode cX8_copy 51 = .ok (.iload_n 3, 1) := by decide +kernel
theorem dX8_copy_52 : decode cX8_copy 52 = .ok (.iaload, 1) := by decide +kernel
theorem dX8_copy_53 : decode cX8_copy 53 = .ok (.if_icmp .eq 9, 3) := by decide +kernel
theorem dX8_copy_56 : decode cX8_copy 56 = .ok (.aload_n 0, 1) := by decide +kernel
theorem dX8_copy_57 : decode cX8_copy 57 = .ok (.iconst 4, 1) := by decide +kernel
theorem dX8_copy_58 : decode cX8_copy 58 = .ok (.invokevirtual 93, 3) := by decide +kernel
theorem dX8_copy_61 : decode cX8_copy 61 = .ok (.ireturn, 1) := by decide +kernel
theorem dX8_copy_62 : decode cX8_copy 62 = .ok (.iload_n 2, 1) := by decide +kernel
theorem dX8_copy_63 : decode cX8_copy 63 = .ok (.ifCond .lt 48, 3) := by decide +kernel
theorem dX8_copy_66 : decode cX8_copy 66 = .ok (.iload 4, 2) := by decide +kernel
theorem dX8_copy_68 : decode cX8_copy 68 = .ok (.ifCond .lt 43, 3) := by decide +kernel
theorem dX8_copy_71 : decode cX8_copy 71 = .ok (.iload 5, 2) := by decide +kernel
theorem dX8_copy_73 : decode cX8_copy 73 = .ok (.ifCond .lt 38, 3) := by decide +kernel
theorem dX8_copy_76 : decode cX8_copy 76 = .ok (.iload_n 2, 1) := by decide +kernel
theorem dX8_copy_77 : decode cX8_copy 77 = .ok (.i2l, 1) := by decide +kernel
theorem dX8_copy_78 : decode cX8_copy 78 = .ok (.iload 5, 2) := by decide +kernel
theorem dX8_copy_80 : decode cX8_copy 80 = .ok (.i2l, 1) := by decide +kernel
theorem dX8_copy_81 : decode cX8_copy 81 = .ok (.ladd, 1) := by decide +kernel
theorem dX8_copy_82 : decode cX8_copy 82 = .ok (.aload_n 0, 1) := by decide +kernel
theorem dX8_copy_83 : decode cX8_copy 83 = .ok (.getfield 13, 3) := by decide +kernel
theorem dX8_copy_86 : decode cX8_copy 86 = .ok (.iload_n 1, 1) := by decide +kernel
theorem dX8_copy_87 : decode cX8_copy 87 = .ok (.iaload, 1) := by decide +kernel
theorem dX8_copy_88 : decode cX8_copy 88 = .ok (.i2l, 1) := by decide +kernel
theorem dX8_copy_89 : decode cX8_copy 89 = .ok (.lcmp, 1) := by decide +kernel
theorem dX8_copy_90 : decode cX8_copy 90 = .ok (.ifCond .gt 21, 3) := by decide +kernel
theorem dX8_copy_93 : decode cX8_copy 93 = .ok (.iload 4, 2) := by decide +kernel
theorem dX8_copy_95 : decode cX8_copy 95 = .ok (.i2l, 1) := by decide +kernel
theorem dX8_copy_96 : decode cX8_copy 96 = .ok (.iload 5, 2) := by decide +kernel
theorem dX8_copy_98 : decode cX8_copy 98 = .ok (.i2l, 1) := by decide +kernel
theorem dX8_copy_99 : decode cX8_copy 99 = .ok (.ladd, 1) := by decide +kernel
theorem dX8_copy_100 : decode cX8_copy 100 = .ok (.aload_n 0, 1) := by decide +kernel
theorem dX8_copy_101 : decode cX8_copy 101 = .ok (.getfield 13, 3) := by decide +kernel
theorem dX8_copy_104 : decode cX8_copy 104 = .ok (.iload_n 3, 1) := by decide +kernel
theorem dX8_copy_105 : decode cX8_copy 105 = .ok (.iaload, 1) := by decide +kernel
theorem dX8_copy_106 : decode cX8_copy 106 = .ok (.i2l, 1) := by decide +kernel
theorem dX8_copy_107 : decode cX8_copy 107 = .ok (.lcmp, 1) := by decide +kernel
theorem dX8_copy_108 : decode cX8_copy 108 = .ok (.ifCond .le 9, 3) := by decide +kernel
theorem dX8_copy_111 : decode cX8_copy 111 = .ok (.aload_n 0, 1) := by decide +kernel
theorem dX8_copy_112 : decode cX8_copy 112 = .ok (.iconst 2, 1) := by decide +kernel
theorem dX8_copy_113 : decode cX8_copy 113 = .ok (.invokevirtual 93, 3) := by decide +kernel
theorem dX8_copy_116 : decode cX8_copy 116 = .ok (.ireturn, 1) := by decide +kernel
theorem dX8_copy_117 : decode cX8_copy 117 = .ok (.iconst 0, 1) := by decide +kernel
theorem dX8_copy_118 : decode cX8_copy 118 = .ok (.istore 6, 2) := by decide +kernel
theorem dX8_copy_120 : decode cX8_copy 120 = .ok (.iload 6, 2) := by decide +kernel
theorem dX8_copy_122 : decode cX8_copy 122 = .ok (.iload 5, 2) := by decide +kernel
theorem dX8_copy_124 : decode cX8_copy 124 = .ok (.if_icmp .ge 30, 3) := by decide +kernel
theorem dX8_copy_127 : decode cX8_copy 127 = .ok (.aload_n 0, 1) := by decide +kernel
theorem dX8_copy_128 : decode cX8_copy 128 = .ok (.getfield 19, 3) := by decide +kernel
theorem dX8_copy_131 : decode cX8_copy 131 = .ok (.iload 6, 2) := by decide +kernel
theorem dX8_copy_133 : decode cX8_copy 133 = .ok (.aload_n 0, 1) := by decide +kernel
theorem dX8_copy_134 : decode cX8_copy 134 = .ok (.getfield 16, 3) := by decide +kernel
theorem dX8_copy_137 : decode cX8_copy 137 = .ok (.bipush 60, 2) := by decide +kernel
theorem dX8_copy_139 : decode cX8_copy 139 = .ok (.iload_n 1, 1) := by decide +kernel
theorem dX8_copy_140 : decode cX8_copy 140 = .ok (.imul, 1) := by decide +kernel
theorem dX8_copy_141 : decode cX8_copy 141 = .ok (.iload_n 2, 1) := by decide +kernel
theorem dX8_copy_142 : decode cX8_copy 142 = .ok (.iadd, 1) := by decide +kernel
theorem dX8_copy_143 : decode cX8_copy 143 = .ok (.iload 6, 2) := by decide +kernel
theorem dX8_copy_145 : decode cX8_copy 145 = .ok (.iadd, 1) := by decide +kernel
theorem dX8_copy_146 : decode cX8_copy 146 = .ok (.iaload, 1) := by decide +kernel
theorem dX8_copy_147 : decode cX8_copy 147 = .ok (.iastore, 1) := by decide +kernel
theorem dX8_copy_148 : decode cX8_copy 148 = .ok (.iinc 6 1, 3) := by decide +kernel
theorem dX8_copy_151 : decode cX8_copy 151 = .ok (.goto (-31), 3) := by decide +kernel
theorem dX8_copy_154 : decode cX8_copy 154 = .ok (.iconst 0, 1) := by decide +kernel
theorem dX8_copy_155 : decode cX8_copy 155 = .ok (.istore 6, 2) := by decide +kernel
theorem dX8_copy_157 : decode cX8_copy 157 = .ok (.iload 6, 2) := by decide +kernel
theorem dX8_copy_159 : decode cX8_copy 159 = .ok (.iload 5, 2) := by decide +kernel
theorem dX8_copy_161 : decode cX8_copy 161 = .ok (.if_icmp .ge 31, 3) := by decide +kernel
theorem dX8_copy_164 : decode cX8_copy 164 = .ok (.aload_n 0, 1) := by decide +kernel
theorem dX8_copy_165 : decode cX8_copy 165 = .ok (.getfield 16, 3) := by decide +kernel
theorem dX8_copy_168 : decode cX8_copy 168 = .ok (.bipush 60, 2) := by decide +kernel
theorem dX8_copy_170 : decode cX8_copy 170 = .ok (.iload_n 3, 1) := by decide +kernel
theorem dX8_copy_171 : decode cX8_copy 171 = .ok (.imul, 1) := by decide +kernel
theorem dX8_copy_172 : decode cX8_copy 172 = .ok (.iload 4, 2) := by decide +kernel
theorem dX8_copy_174 : decode cX8_copy 174 = .ok (.iadd, 1) := by decide +kernel
theorem dX8_copy_175 : decode cX8_copy 175 = .ok (.iload 6, 2) := by decide +kernel
theorem dX8_copy_177 : decode cX8_copy 177 = .ok (.iadd, 1) := by decide +kernel
theorem dX8_copy_178 : decode cX8_copy 178 = .ok (.aload_n 0, 1) := by decide +kernel
theorem dX8_copy_179 : decode cX8_copy 179 = .ok (.getfield 19, 3) := by decide +kernel
theorem dX8_copy_182 : decode cX8_copy 182 = .ok (.iload 6, 2) := by decide +kernel
theorem dX8_copy_184 : decode cX8_copy 184 = .ok (.iaload, 1) := by decide +kernel
theorem dX8_copy_185 : decode cX8_copy 185 = .ok (.iastore, 1) := by decide +kernel
theorem dX8_copy_186 : decode cX8_copy 186 = .ok (.iinc 6 1, 3) := by decide +kernel
theorem dX8_copy_189 : decode cX8_copy 189 = .ok (.goto (-32), 3) := by decide +kernel
theorem dX8_copy_192 : decode cX8_copy 192 = .ok (.iconst 1, 1) := by decide +kernel
theorem dX8_copy_193 : decode cX8_copy 193 = .ok (.ireturn, 1) := by decide +kernel
theorem dX8_type_0 : decode cX8_type 0 = .ok (.iload_n 1, 1) := by decide +kernel
theorem dX8_type_1 : decode cX8_type 1 = .ok (.i2l, 1) := by decide +kernel
theorem dX8_type_2 : decode cX8_type 2 = .ok (.lconst 0, 1) := by decide +kernel
theorem dX8_type_3 : decode cX8_type 3 = .ok (.ldc2_w 91, 3) := by decide +kernel
theorem dX8_type_6 : decode cX8_type 6 = .ok (.invokestatic 77, 3) := by decide +kernel
theorem dX8_type_9 : decode cX8_type 9 = .ok (.ifCond .eq 15, 3) := by decide +kernel
theorem dX8_type_12 : decode cX8_type 12 = .ok (.iload_n 2, 1) := by decide +kernel
theorem dX8_type_13 : decode cX8_type 13 = .ok (.i2l, 1) := by decide +kernel
theorem dX8_type_14 : decode cX8_type 14 = .ok (.lconst 0, 1) := by decide +kernel
theorem dX8_type_15 : decode cX8_type 15 = .ok (.ldc2_w 106, 3) := by decide +kernel
theorem dX8_type_18 : decode cX8_type 18 = .ok (.invokestatic 77, 3) := by decide +kernel
theorem dX8_type_21 : decode cX8_type 21 = .ok (.ifCond .ne 6, 3) := by decide +kernel
theorem dX8_type_24 : decode cX8_type 24 = .ok (.bipush (-2), 2) := by decide +kernel
theorem dX8_type_26 : decode cX8_type 26 = .ok (.ireturn, 1) := by decide +kernel
theorem dX8_type_27 : decode cX8_type 27 = .ok (.aload_n 0, 1) := by decide +kernel
theorem dX8_type_28 : decode cX8_type 28 = .ok (.getfield 25, 3) := by decide +kernel
theorem dX8_type_31 : decode cX8_type 31 = .ok (.iload_n 1, 1) := by decide +kernel
theorem dX8_type_32 : decode cX8_type 32 = .ok (.iaload, 1) := by decide +kernel
theorem dX8_type_33 : decode cX8_type 33 = .ok (.bipush 40, 2) := by decide +kernel
theorem dX8_type_35 : decode cX8_type 35 = .ok (.if_icmp .ne 6, 3) := by decide +kernel
theorem dX8_type_38 : decode cX8_type 38 = .ok (.bipush (-4), 2) := by decide +kernel
theorem dX8_type_40 : decode cX8_type 40 = .ok (.ireturn, 1) := by decide +kernel
theorem dX8_type_41 : decode cX8_type 41 = .ok (.aload_n 0, 1) := by decide +kernel
theorem dX8_type_42 : decode cX8_type 42 = .ok (.getfield 22, 3) := by decide +kernel
theorem dX8_type_45 : decode cX8_type 45 = .ok (.bipush 40, 2) := by decide +kernel
theorem dX8_type_47 : decode cX8_type 47 = .ok (.iload_n 1, 1) := by decide +kernel
theorem dX8_type_48 : decode cX8_type 48 = .ok (.imul, 1) := by decide +kernel
theorem dX8_type_49 : decode cX8_type 49 = .ok (.aload_n 0, 1) := by decide +kernel
theorem dX8_type_50 : decode cX8_type 50 = .ok (.getfield 25, 3) := by decide +kernel
theorem dX8_type_53 : decode cX8_type 53 = .ok (.iload_n 1, 1) := by decide +kernel
theorem dX8_type_54 : decode cX8_type 54 = .ok (.iaload, 1) := by decide +kernel
theorem dX8_type_55 : decode cX8_type 55 = .ok (.iadd, 1) := by decide +kernel
theorem dX8_type_56 : decode cX8_type 56 = .ok (.iload_n 2, 1) := by decide +kernel
theorem dX8_type_57 : decode cX8_type 57 = .ok (.iastore, 1) := by decide +kernel
theorem dX8_type_58 : decode cX8_type 58 = .ok (.aload_n 0, 1) := by decide +kernel
theorem dX8_type_59 : decode cX8_type 59 = .ok (.getfield 25, 3) := by decide +kernel
theorem dX8_type_62 : decode cX8_type 62 = .ok (.iload_n 1, 1) := by decide +kernel
theorem dX8_type_63 : decode cX8_type 63 = .ok (.dup2, 1) := by decide +kernel
theorem dX8_type_64 : decode cX8_type 64 = .ok (.iaload, 1) := by decide +kernel
theorem dX8_type_65 : decode cX8_type 65 = .ok (.iconst 1, 1) := by decide +kernel
theorem dX8_type_66 : decode cX8_type 66 = .ok (.iadd, 1) := by decide +kernel
theorem dX8_type_67 : decode cX8_type 67 = .ok (.iastore, 1) := by decide +kernel
theorem dX8_type_68 : decode cX8_type 68 = .ok (.aload_n 0, 1) := by decide +kernel
theorem dX8_type_69 : decode cX8_type 69 = .ok (.getfield 25, 3) := by decide +kernel
theorem dX8_type_72 : decode cX8_type 72 = .ok (.iload_n 1, 1) := by decide +kernel
theorem dX8_type_73 : decode cX8_type 73 = .ok (.iaload, 1) := by decide +kernel
theorem dX8_type_74 : decode cX8_type 74 = .ok (.ireturn, 1) := by decide +kernel
theorem dX8_wipe_0 : decode cX8_wipe 0 = .ok (.iload_n 1, 1) := by decide +kernel
theorem dX8_wipe_1 : decode cX8_wipe 1 = .ok (.i2l, 1) := by decide +kernel
theorem dX8_wipe_2 : decode cX8_wipe 2 = .ok (.lconst 0, 1) := by decide +kernel
theorem dX8_wipe_3 : decode cX8_wipe 3 = .ok (.ldc2_w 91, 3) := by decide +kernel
theorem dX8_wipe_6 : decode cX8_wipe 6 = .ok (.invokestatic 77, 3) := by decide +kernel
theorem dX8_wipe_9 : decode cX8_wipe 9 = .ok (.ifCond .ne 6, 3) := by decide +kernel
theorem dX8_wipe_12 : decode cX8_wipe 12 = .ok (.bipush (-2), 2) := by decide +kernel
theorem dX8_wipe_14 : decode cX8_wipe 14 = .ok (.ireturn, 1) := by decide +kernel
theorem dX8_wipe_15 : decode cX8_wipe 15 = .ok (.aload_n 0, 1) := by decide +kernel
theorem dX8_wipe_16 : decode cX8_wipe 16 = .ok (.getfield 25, 3) := by decide +kernel
theorem dX8_wipe_19 : decode cX8_wipe 19 = .ok (.iload_n 1, 1) := by decide +kernel
theorem dX8_wipe_20 : decode cX8_wipe 20 = .ok (.iaload, 1) := by decide +kernel
theorem dX8_wipe_21 : decode cX8_wipe 21 = .ok (.istore_n 2, 1) := by decide +kernel
theorem dX8_wipe_22 : decode cX8_wipe 22 = .ok (.aload_n 0, 1) := by decide +kernel
theorem dX8_wipe_23 : decode cX8_wipe 23 = .ok (.getfield 25, 3) := by decide +kernel
theorem dX8_wipe_26 : decode cX8_wipe 26 = .ok (.iload_n 1, 1) := by decide +kernel
theorem dX8_wipe_27 : decode cX8_wipe 27 = .ok (.iconst 0, 1) := by decide +kernel
theorem dX8_wipe_28 : decode cX8_wipe 28 = .ok (.iastore, 1) := by decide +kernel
theorem dX8_wipe_29 : decode cX8_wipe 29 = .ok (.iload_n 2, 1) := by decide +kernel
theorem dX8_wipe_30 : decode cX8_wipe 30 = .ok (.ireturn, 1) := by decide +kernel
theorem dX8_here_0 : decode cX8_here 0 = .ok (.aload_n 0, 1) := by decide +kernel
theorem dX8_here_1 : decode cX8_here 1 = .ok (.getfield 108, 3) := by decide +kernel
theorem dX8_here_4 : decode cX8_here 4 = .ok (.aload_n 0, 1) := by decide +kernel
theorem dX8_here_5 : decode cX8_here 5 = .ok (.getfield 25, 3) := by decide +kernel
theorem dX8_here_8 : decode cX8_here 8 = .ok (.iconst 0, 1) := by decide +kernel
theorem dX8_here_9 : decode cX8_here 9 = .ok (.iaload, 1) := by decide +kernel
theorem dX8_here_10 : decode cX8_here 10 = .ok (.if_icmp .ge 15, 3) := by decide +kernel
theorem dX8_here_13 : decode cX8_here 13 = .ok (.aload_n 0, 1) := by decide +kernel
theorem dX8_here_14 : decode cX8_here 14 = .ok (.getfield 22, 3) := by decide +kernel
theorem dX8_here_17 : decode cX8_here 17 = .ok (.aload_n 0, 1) := by decide +kernel
theorem dX8_here_18 : decode cX8_here 18 = .ok (.getfield 108, 3) := by decide +kernel
theorem dX8_here_21 : decode cX8_here 21 = .ok (.iaload, 1) := by decide +kernel
theorem dX8_here_22 : decode cX8_here 22 = .ok (.goto 4, 3) := by decide +kernel
theorem dX8_here_25 : decode cX8_here 25 = .ok (.iconst (-1), 1) := by decide +kernel
theorem dX8_here_26 : decode cX8_here 26 = .ok (.ireturn, 1) := by decide +kernel
theorem dX8_readsPart_0 : decode cX8_readsPart 0 = .ok (.aload_n 0, 1) := by decide +kernel
theorem dX8_readsPart_1 : decode cX8_readsPart 1 = .ok (.getfield 111, 3) := by decide +kernel
theorem dX8_readsPart_4 : decode cX8_readsPart 4 = .ok (.bipush 8, 2) := by decide +kernel
theorem dX8_readsPart_6 : decode cX8_readsPart 6 = .ok (.if_icmp .ne 5, 3) := by decide +kernel
theorem dX8_readsPart_9 : decode cX8_readsPart 9 = .ok (.iconst 0, 1) := by decide +kernel
theorem dX8_readsPart_10 : decode cX8_readsPart 10 = .ok (.ireturn, 1) := by decide +kernel
theorem dX8_readsPart_11 : decode cX8_readsPart 11 = .ok (.iconst 0, 1) := by decide +kernel
theorem dX8_readsPart_12 : decode cX8_readsPart 12 = .ok (.istore_n 1, 1) := by decide +kernel
theorem dX8_readsPart_13 : decode cX8_readsPart 13 = .ok (.iload_n 1, 1) := by decide +kernel
theorem dX8_readsPart_14 : decode cX8_readsPart 14 = .ok (.iconst 3, 1) := by decide +kernel
theorem dX8_readsPart_15 : decode cX8_readsPart 15 = .ok (.if_icmp .ge 94, 3) := by decide +kernel
theorem dX8_readsPart_18 : decode cX8_readsPart 18 = .ok (.aload_n 0, 1) := by decide +kernel
theorem dX8_readsPart_19 : decode cX8_readsPart 19 = .ok (.invokevirtual 114, 3) := by decide +kernel
theorem dX8_readsPart_22 : decode cX8_readsPart 22 = .ok (.bipush 48, 2) := by decide +kernel
theorem dX8_readsPart_24 : decode cX8_readsPart 24 = .ok (.isub, 1) := by decide +kernel
theorem dX8_readsPart_25 : decode cX8_readsPart 25 = .ok (.istore_n 2, 1) := by decide +kernel
theorem dX8_readsPart_26 : decode cX8_readsPart 26 = .ok (.iload_n 1, 1) := by decide +kernel
theorem dX8_readsPart_27 : decode cX8_readsPart 27 = .ok (.iconst 2, 1) := by decide +kernel
theorem dX8_readsPart_28 : decode cX8_readsPart 28 = .ok (.if_icmp .ge 15, 3) := by decide +kernel
theorem dX8_readsPart_31 : decode cX8_readsPart 31 = .ok (.iload_n 2, 1) := by decide +kernel
theorem dX8_readsPart_32 : decode cX8_readsPart 32 = .ok (.i2l, 1) := by decide +kernel
theorem dX8_readsPart_33 : decode cX8_readsPart 33 = .ok (.lconst 0, 1) := by decide +kernel
theorem dX8_readsPart_34 : decode cX8_readsPart 34 = .ok (.ldc2_w 118, 3) := by decide +kernel
theorem dX8_readsPart_37 : decode cX8_readsPart 37 = .ok (.invokestatic 77, 3) := by decide +kernel
theorem dX8_readsPart_40 : decode cX8_readsPart 40 = .ok (.goto 12, 3) := by decide +kernel
theorem dX8_readsPart_43 : decode cX8_readsPart 43 = .ok (.iload_n 2, 1) := by decide +kernel
theorem dX8_readsPart_44 : decode cX8_readsPart 44 = .ok (.i2l, 1) := by decide +kernel
theorem dX8_readsPart_45 : decode cX8_readsPart 45 = .ok (.lconst 1, 1) := by decide +kernel
theorem dX8_readsPart_46 : decode cX8_readsPart 46 = .ok (.ldc2_w 120, 3) := by decide +kernel
theorem dX8_readsPart_49 : decode cX8_readsPart 49 = .ok (.invokestatic 77, 3) := by decide +kernel
theorem dX8_readsPart_52 : decode cX8_readsPart 52 = .ok (.istore_n 3, 1) := by decide +kernel
theorem dX8_readsPart_53 : decode cX8_readsPart 53 = .ok (.iload_n 3, 1) := by decide +kernel
theorem dX8_readsPart_54 : decode cX8_readsPart 54 = .ok (.ifCond .eq 23, 3) := by decide +kernel
theorem dX8_readsPart_57 : decode cX8_readsPart 57 = .ok (.iload_n 1, 1) := by decide +kernel
theorem dX8_readsPart_58 : decode cX8_readsPart 58 = .ok (.iconst 1, 1) := by decide +kernel
theorem dX8_readsPart_59 : decode cX8_readsPart 59 = .ok (.if_icmp .ne 20, 3) := by decide +kernel
theorem dX8_readsPart_62 : decode cX8_readsPart 62 = .ok (.iload_n 2, 1) := by decide +kernel
theorem dX8_readsPart_63 : decode cX8_readsPart 63 = .ok (.aload_n 0, 1) := by decide +kernel
theorem dX8_readsPart_64 : decode cX8_readsPart 64 = .ok (.getfield 28, 3) := by decide +kernel
theorem dX8_readsPart_67 : decode cX8_readsPart 67 = .ok (.iconst 3, 1) := by decide +kernel
theorem dX8_readsPart_68 : decode cX8_readsPart 68 = .ok (.aload_n 0, 1) := by decide +kernel
theorem dX8_readsPart_69 : decode cX8_readsPart 69 = .ok (.getfield 111, 3) := by decide +kernel
theorem dX8_readsPart_72 : decode cX8_readsPart 72 = .ok (.imul, 1) := by decide +kernel
theorem dX8_readsPart_73 : decode cX8_readsPart 73 = .ok (.iaload, 1) := by decide +kernel
theorem dX8_readsPart_74 : decode cX8_readsPart 74 = .ok (.if_icmp .ne 5, 3) := by decide +kernel
theorem dX8_readsPart_77 : decode cX8_readsPart 77 = .ok (.iconst 0, 1) := by decide +kernel
theorem dX8_readsPart_78 : decode cX8_readsPart 78 = .ok (.ireturn, 1) := by decide +kernel
theorem dX8_readsPart_79 : decode cX8_readsPart 79 = .ok (.aload_n 0, 1) := by decide +kernel
theorem dX8_readsPart_80 : decode cX8_readsPart 80 = .ok (.getfield 28, 3) := by decide +kernel
theorem dX8_readsPart_83 : decode cX8_readsPart 83 = .ok (.iconst 3, 1) := by decide +kernel
theorem dX8_readsPart_84 : decode cX8_readsPart 84 = .ok (.aload_n 0, 1) := by decide +kernel
theorem dX8_readsPart_85 : decode cX8_readsPart 85 = .ok (.getfield 111, 3) := by decide +kernel
theorem dX8_readsPart_88 : decode cX8_readsPart 88 = .ok (.imul, 1) := by decide +kernel
theorem dX8_readsPart_89 : decode cX8_readsPart 89 = .ok (.iload_n 1, 1) := by decide +kernel
theorem dX8_readsPart_90 : decode cX8_readsPart 90 = .ok (.iadd, 1) := by decide +kernel
theorem dX8_readsPart_91 : decode cX8_readsPart 91 = .ok (.iload_n 2, 1) := by decide +kernel
theorem dX8_readsPart_92 : decode cX8_readsPart 92 = .ok (.iastore, 1) := by decide +kernel
theorem dX8_readsPart_93 : decode cX8_readsPart 93 = .ok (.aload_n 0, 1) := by decide +kernel
theorem dX8_readsPart_94 : decode cX8_readsPart 94 = .ok (.dup, 1) := by decide +kernel
theorem dX8_readsPart_95 : decode cX8_readsPart 95 = .ok (.getfield 108, 3) := by decide +kernel
theorem dX8_readsPart_98 : decode cX8_readsPart 98 = .ok (.iconst 1, 1) := by decide +kernel
theorem dX8_readsPart_99 : decode cX8_readsPart 99 = .ok (.iadd, 1) := by decide +kernel
theorem dX8_readsPart_100 : decode cX8_readsPart 100 = .ok (.putfield 108, 3) := by decide +kernel
theorem dX8_readsPart_103 : decode cX8_readsPart 103 = .ok (.iinc 1 1, 3) := by decide +kernel
theorem dX8_readsPart_106 : decode cX8_readsPart 106 = .ok (.goto (-93), 3) := by decide +kernel
theorem dX8_readsPart_109 : decode cX8_readsPart 109 = .ok (.aload_n 0, 1) := by decide +kernel
theorem dX8_readsPart_110 : decode cX8_readsPart 110 = .ok (.dup, 1) := by decide +kernel
theorem dX8_readsPart_111 : decode cX8_readsPart 111 = .ok (.getfield 111, 3) := by decide +kernel
theorem dX8_readsPart_114 : decode cX8_readsPart 114 = .ok (.iconst 1, 1) := by decide +kernel
theorem dX8_readsPart_115 : decode cX8_readsPart 115 = .ok (.iadd, 1) := by decide +kernel
theorem dX8_readsPart_116 : decode cX8_readsPart 116 = .ok (.putfield 111, 3) := by decide +kernel
theorem dX8_readsPart_119 : decode cX8_readsPart 119 = .ok (.iconst 1, 1) := by decide +kernel
theorem dX8_readsPart_120 : decode cX8_readsPart 120 = .ok (.ireturn, 1) := by decide +kernel
theorem dX8_none_0 : decode cX8_none 0 = .ok (.aload_n 0, 1) := by decide +kernel
theorem dX8_none_1 : decode cX8_none 1 = .ok (.iconst 0, 1) := by decide +kernel
theorem dX8_none_2 : decode cX8_none 2 = .ok (.putfield 111, 3) := by decide +kernel
theorem dX8_none_5 : decode cX8_none 5 = .ok (.aload_n 0, 1) := by decide +kernel
theorem dX8_none_6 : decode cX8_none 6 = .ok (.getfield 108, 3) := by decide +kernel
theorem dX8_none_9 : decode cX8_none 9 = .ok (.ireturn, 1) := by decide +kernel
theorem dX8_reads_0 : decode cX8_reads 0 = .ok (.aload_n 0, 1) := by decide +kernel
theorem dX8_reads_1 : decode cX8_reads 1 = .ok (.iconst 0, 1) := by decide +kernel
theorem dX8_reads_2 : decode cX8_reads 2 = .ok (.putfield 108, 3) := by decide +kernel
theorem dX8_reads_5 : decode cX8_reads 5 = .ok (.aload_n 0, 1) := by decide +kernel
theorem dX8_reads_6 : decode cX8_reads 6 = .ok (.iconst 0, 1) := by decide +kernel
theorem dX8_reads_7 : decode cX8_reads 7 = .ok (.putfield 111, 3) := by decide +kernel
theorem dX8_reads_10 : decode cX8_reads 10 = .ok (.aload_n 0, 1) := by decide +kernel
theorem dX8_reads_11 : decode cX8_reads 11 = .ok (.getfield 25, 3) := by decide +kernel
theorem dX8_reads_14 : decode cX8_reads 14 = .ok (.iconst 0, 1) := by decide +kernel
theorem dX8_reads_15 : decode cX8_reads 15 = .ok (.iaload, 1) := by decide +kernel
theorem dX8_reads_16 : decode cX8_reads 16 = .ok (.ifCond .le 7, 3) := by decide +kernel
theorem dX8_reads_19 : decode cX8_reads 19 = .ok (.iconst 1, 1) := by decide +kernel
theorem dX8_reads_20 : decode cX8_reads 20 = .ok (.goto 4, 3) := by decide +kernel
theorem dX8_reads_23 : decode cX8_reads 23 = .ok (.iconst 0, 1) := by decide +kernel
theorem dX8_reads_24 : decode cX8_reads 24 = .ok (.istore_n 1, 1) := by decide +kernel
theorem dX8_reads_25 : decode cX8_reads 25 = .ok (.iload_n 1, 1) := by decide +kernel
theorem dX8_reads_26 : decode cX8_reads 26 = .ok (.ifCond .eq 73, 3) := by decide +kernel
theorem dX8_reads_29 : decode cX8_reads 29 = .ok (.aload_n 0, 1) := by decide +kernel
theorem dX8_reads_30 : decode cX8_reads 30 = .ok (.invokevirtual 122, 3) := by decide +kernel
theorem dX8_reads_33 : decode cX8_reads 33 = .ok (.ifCond .ne 8, 3) := by decide +kernel
theorem dX8_reads_36 : decode cX8_reads 36 = .ok (.aload_n 0, 1) := by decide +kernel
theorem dX8_reads_37 : decode cX8_reads 37 = .ok (.invokevirtual 126, 3) := by decide +kernel
theorem dX8_reads_40 : decode cX8_reads 40 = .ok (.ireturn, 1) := by decide +kernel
theorem dX8_reads_41 : decode cX8_reads 41 = .ok (.aload_n 0, 1) := by decide +kernel
theorem dX8_reads_42 : decode cX8_reads 42 = .ok (.getfield 108, 3) := by decide +kernel
theorem dX8_reads_45 : decode cX8_reads 45 = .ok (.aload_n 0, 1) := by decide +kernel
theorem dX8_reads_46 : decode cX8_reads 46 = .ok (.getfield 25, 3) := by decide +kernel
theorem dX8_reads_49 : decode cX8_reads 49 = .ok (.iconst 0, 1) := by decide +kernel
theorem dX8_reads_50 : decode cX8_reads 50 = .ok (.iaload, 1) := by decide +kernel
theorem dX8_reads_51 : decode cX8_reads 51 = .ok (.if_icmp .ge 7, 3) := by decide +kernel
theorem dX8_reads_54 : decode cX8_reads 54 = .ok (.iconst 1, 1) := by decide +kernel
theorem dX8_reads_55 : decode cX8_reads 55 = .ok (.goto 4, 3) := by decide +kernel
theorem dX8_reads_58 : decode cX8_reads 58 = .ok (.iconst 0, 1) := by decide +kernel
theorem dX8_reads_59 : decode cX8_reads 59 = .ok (.istore_n 1, 1) := by decide +kernel
theorem dX8_reads_60 : decode cX8_reads 60 = .ok (.iload_n 1, 1) := by decide +kernel
theorem dX8_reads_61 : decode cX8_reads 61 = .ok (.ifCond .eq 17, 3) := by decide +kernel
theorem dX8_reads_64 : decode cX8_reads 64 = .ok (.aload_n 0, 1) := by decide +kernel
theorem dX8_reads_65 : decode cX8_reads 65 = .ok (.invokevirtual 114, 3) := by decide +kernel
theorem dX8_reads_68 : decode cX8_reads 68 = .ok (.bipush 59, 2) := by decide +kernel
theorem dX8_reads_70 : decode cX8_reads 70 = .ok (.if_icmp .eq 8, 3) := by decide +kernel
theorem dX8_reads_73 : decode cX8_reads 73 = .ok (.aload_n 0, 1) := by decide +kernel
theorem dX8_reads_74 : decode cX8_reads 74 = .ok (.invokevirtual 126, 3) := by decide +kernel
theorem dX8_reads_77 : decode cX8_reads 77 = .ok (.ireturn, 1) := by decide +kernel
theorem dX8_reads_78 : decode cX8_reads 78 = .ok (.aload_n 0, 1) := by decide +kernel
theorem dX8_reads_79 : decode cX8_reads 79 = .ok (.dup, 1) := by decide +kernel
theorem dX8_reads_80 : decode cX8_reads 80 = .ok (.getfield 108, 3) := by decide +kernel
theorem dX8_reads_83 : decode cX8_reads 83 = .ok (.iload_n 1, 1) := by decide +kernel
theorem dX8_reads_84 : decode cX8_reads 84 = .ok (.ifCond .eq 7, 3) := by decide +kernel
theorem dX8_reads_87 : decode cX8_reads 87 = .ok (.iconst 1, 1) := by decide +kernel
theorem dX8_reads_88 : decode cX8_reads 88 = .ok (.goto 4, 3) := by decide +kernel
theorem dX8_reads_91 : decode cX8_reads 91 = .ok (.iconst 0, 1) := by decide +kernel
theorem dX8_reads_92 : decode cX8_reads 92 = .ok (.iadd, 1) := by decide +kernel
theorem dX8_reads_93 : decode cX8_reads 93 = .ok (.putfield 108, 3) := by decide +kernel
theorem dX8_reads_96 : decode cX8_reads 96 = .ok (.goto (-71), 3) := by decide +kernel
theorem dX8_reads_99 : decode cX8_reads 99 = .ok (.iconst (-1), 1) := by decide +kernel
theorem dX8_reads_100 : decode cX8_reads 100 = .ok (.ireturn, 1) := by decide +kernel
theorem dX8_fault_0 : decode cX8_fault 0 = .ok (.aload_n 0, 1) := by decide +kernel
theorem dX8_fault_1 : decode cX8_fault 1 = .ok (.invokevirtual 129, 3) := by decide +kernel
theorem dX8_fault_4 : decode cX8_fault 4 = .ok (.ireturn, 1) := by decide +kernel
theorem dX8_isPath_0 : decode cX8_isPath 0 = .ok (.aload_n 0, 1) := by decide +kernel
theorem dX8_isPath_1 : decode cX8_isPath 1 = .ok (.invokevirtual 129, 3) := by decide +kernel
theorem dX8_isPath_4 : decode cX8_isPath 4 = .ok (.pop, 1) := by decide +kernel
theorem dX8_isPath_5 : decode cX8_isPath 5 = .ok (.iload_n 1, 1) := by decide +kernel
theorem dX8_isPath_6 : decode cX8_isPath 6 = .ok (.i2l, 1) := by decide +kernel
theorem dX8_isPath_7 : decode cX8_isPath 7 = .ok (.lconst 0, 1) := by decide +kernel
theorem dX8_isPath_8 : decode cX8_isPath 8 = .ok (.aload_n 0, 1) := by decide +kernel
theorem dX8_isPath_9 : decode cX8_isPath 9 = .ok (.getfield 111, 3) := by decide +kernel
theorem dX8_isPath_12 : decode cX8_isPath 12 = .ok (.iconst 1, 1) := by decide +kernel
theorem dX8_isPath_13 : decode cX8_isPath 13 = .ok (.isub, 1) := by decide +kernel
theorem dX8_isPath_14 : decode cX8_isPath 14 = .ok (.i2l, 1) := by decide +kernel
theorem dX8_isPath_15 : decode cX8_isPath 15 = .ok (.invokestatic 77, 3) := by decide +kernel
theorem dX8_isPath_18 : decode cX8_isPath 18 = .ok (.ireturn, 1) := by decide +kernel
theorem dX8_isPlace_0 : decode cX8_isPlace 0 = .ok (.iload_n 0, 1) := by decide +kernel
theorem dX8_isPlace_1 : decode cX8_isPlace 1 = .ok (.i2l, 1) := by decide +kernel
theorem dX8_isPlace_2 : decode cX8_isPlace 2 = .ok (.lconst 0, 1) := by decide +kernel
theorem dX8_isPlace_3 : decode cX8_isPlace 3 = .ok (.ldc2_w 118, 3) := by decide +kernel
theorem dX8_isPlace_6 : decode cX8_isPlace 6 = .ok (.invokestatic 77, 3) := by decide +kernel
theorem dX8_isPlace_9 : decode cX8_isPlace 9 = .ok (.ireturn, 1) := by decide +kernel
theorem dX8_path_0 : decode cX8_path 0 = .ok (.aload_n 0, 1) := by decide +kernel
theorem dX8_path_1 : decode cX8_path 1 = .ok (.iload_n 1, 1) := by decide +kernel
theorem dX8_path_2 : decode cX8_path 2 = .ok (.invokevirtual 132, 3) := by decide +kernel
theorem dX8_path_5 : decode cX8_path 5 = .ok (.ifCond .eq 28, 3) := by decide +kernel
theorem dX8_path_8 : decode cX8_path 8 = .ok (.iload_n 2, 1) := by decide +kernel
theorem dX8_path_9 : decode cX8_path 9 = .ok (.i2l, 1) := by decide +kernel
theorem dX8_path_10 : decode cX8_path 10 = .ok (.lconst 0, 1) := by decide +kernel
theorem dX8_path_11 : decode cX8_path 11 = .ok (.ldc2_w 91, 3) := by decide +kernel
theorem dX8_path_14 : decode cX8_path 14 = .ok (.invokestatic 77, 3) := by decide +kernel
theorem dX8_path_17 : decode cX8_path 17 = .ok (.ifCond .eq 16, 3) := by decide +kernel
theorem dX8_path_20 : decode cX8_path 20 = .ok (.aload_n 0, 1) := by decide +kernel
theorem dX8_path_21 : decode cX8_path 21 = .ok (.getfield 28, 3) := by decide +kernel
theorem dX8_path_24 : decode cX8_path 24 = .ok (.iconst 3, 1) := by decide +kernel
theorem dX8_path_25 : decode cX8_path 25 = .ok (.iload_n 1, 1) := by decide +kernel
theorem dX8_path_26 : decode cX8_path 26 = .ok (.imul, 1) := by decide +kernel
theorem dX8_path_27 : decode cX8_path 27 = .ok (.iload_n 2, 1) := by decide +kernel
theorem dX8_path_28 : decode cX8_path 28 = .ok (.iadd, 1) := by decide +kernel
theorem dX8_path_29 : decode cX8_path 29 = .ok (.iaload, 1) := by decide +kernel
theorem dX8_path_30 : decode cX8_path 30 = .ok (.goto 5, 3) := by decide +kernel
theorem dX8_path_33 : decode cX8_path 33 = .ok (.bipush (-2), 2) := by decide +kernel
theorem dX8_path_35 : decode cX8_path 35 = .ok (.ireturn, 1) := by decide +kernel
theorem dX8_start_0 : decode cX8_start 0 = .ok (.iload_n 1, 1) := by decide +kernel
theorem dX8_start_1 : decode cX8_start 1 = .ok (.invokestatic 135, 3) := by decide +kernel
theorem dX8_start_4 : decode cX8_start 4 = .ok (.ifCond .eq 10, 3) := by decide +kernel
theorem dX8_start_7 : decode cX8_start 7 = .ok (.iload_n 2, 1) := by decide +kernel
theorem dX8_start_8 : decode cX8_start 8 = .ok (.invokestatic 138, 3) := by decide +kernel
theorem dX8_start_11 : decode cX8_start 11 = .ok (.ifCond .ne 6, 3) := by decide +kernel
theorem dX8_start_14 : decode cX8_start 14 = .ok (.bipush (-2), 2) := by decide +kernel
theorem dX8_start_16 : decode cX8_start 16 = .ok (.ireturn, 1) := by decide +kernel
theorem dX8_start_17 : decode cX8_start 17 = .ok (.aload_n 0, 1) := by decide +kernel
theorem dX8_start_18 : decode cX8_start 18 = .ok (.getfield 31, 3) := by decide +kernel
theorem dX8_start_21 : decode cX8_start 21 = .ok (.iload_n 1, 1) := by decide +kernel
theorem dX8_start_22 : decode cX8_start 22 = .ok (.iaload, 1) := by decide +kernel
theorem dX8_start_23 : decode cX8_start 23 = .ok (.istore_n 3, 1) := by decide +kernel
theorem dX8_start_24 : decode cX8_start 24 = .ok (.aload_n 0, 1) := by decide +kernel
theorem dX8_start_25 : decode cX8_start 25 = .ok (.getfield 31, 3) := by decide +kernel
theorem dX8_start_28 : decode cX8_start 28 = .ok (.iload_n 1, 1) := by decide +kernel
theorem dX8_start_29 : decode cX8_start 29 = .ok (.iload_n 2, 1) := by decide +kernel
theorem dX8_start_30 : decode cX8_start 30 = .ok (.iastore, 1) := by decide +kernel
theorem dX8_start_31 : decode cX8_start 31 = .ok (.iload_n 3, 1) := by decide +kernel
theorem dX8_start_32 : decode cX8_start 32 = .ok (.ireturn, 1) := by decide +kernel
theorem dX8_set_0 : decode cX8_set 0 = .ok (.iload_n 1, 1) := by decide +kernel
theorem dX8_set_1 : decode cX8_set 1 = .ok (.i2l, 1) := by decide +kernel
theorem dX8_set_2 : decode cX8_set 2 = .ok (.lconst 0, 1) := by decide +kernel
theorem dX8_set_3 : decode cX8_set 3 = .ok (.ldc2_w 91, 3) := by decide +kernel
theorem dX8_set_6 : decode cX8_set 6 = .ok (.invokestatic 77, 3) := by decide +kernel
theorem dX8_set_9 : decode cX8_set 9 = .ok (.ifCond .eq 35, 3) := by decide +kernel
theorem dX8_set_12 : decode cX8_set 12 = .ok (.iload_n 2, 1) := by decide +kernel
theorem dX8_set_13 : decode cX8_set 13 = .ok (.i2l, 1) := by decide +kernel
theorem dX8_set_14 : decode cX8_set 14 = .ok (.iload_n 1, 1) := by decide +kernel
theorem dX8_set_15 : decode cX8_set 15 = .ok (.iconst 2, 1) := by decide +kernel
theorem dX8_set_16 : decode cX8_set 16 = .ok (.if_icmp .ne 7, 3) := by decide +kernel
theorem dX8_set_19 : decode cX8_set 19 = .ok (.lconst 1, 1) := by decide +kernel
theorem dX8_set_20 : decode cX8_set 20 = .ok (.goto 4, 3) := by decide +kernel
theorem dX8_set_23 : decode cX8_set 23 = .ok (.lconst 0, 1) := by decide +kernel
theorem dX8_set_24 : decode cX8_set 24 = .ok (.iload_n 1, 1) := by decide +kernel
theorem dX8_set_25 : decode cX8_set 25 = .ok (.iconst 2, 1) := by decide +kernel
theorem dX8_set_26 : decode cX8_set 26 = .ok (.if_icmp .ne 9, 3) := by decide +kernel
theorem dX8_set_29 : decode cX8_set 29 = .ok (.ldc2_w 141, 3) := by decide +kernel
theorem dX8_set_32 : decode cX8_set 32 = .ok (.goto 6, 3) := by decide +kernel
theorem dX8_set_35 : decode cX8_set 35 = .ok (.ldc2_w 120, 3) := by decide +kernel
theorem dX8_set_38 : decode cX8_set 38 = .ok (.invokestatic 77, 3) := by decide +kernel
theorem dX8_set_41 : decode cX8_set 41 = .ok (.ifCond .ne 6, 3) := by decide +kernel
theorem dX8_set_44 : decode cX8_set 44 = .ok (.bipush (-2), 2) := by decide +kernel
theorem dX8_set_46 : decode cX8_set 46 = .ok (.ireturn, 1) := by decide +kernel
theorem dX8_set_47 : decode cX8_set 47 = .ok (.aload_n 0, 1) := by decide +kernel
theorem dX8_set_48 : decode cX8_set 48 = .ok (.getfield 34, 3) := by decide +kernel
theorem dX8_set_51 : decode cX8_set 51 = .ok (.iload_n 1, 1) := by decide +kernel
theorem dX8_set_52 : decode cX8_set 52 = .ok (.iaload, 1) := by decide +kernel
theorem dX8_set_53 : decode cX8_set 53 = .ok (.istore_n 3, 1) := by decide +kernel
theorem dX8_set_54 : decode cX8_set 54 = .ok (.aload_n 0, 1) := by decide +kernel
theorem dX8_set_55 : decode cX8_set 55 = .ok (.getfield 34, 3) := by decide +kernel
theorem dX8_set_58 : decode cX8_set 58 = .ok (.iload_n 1, 1) := by decide +kernel
theorem dX8_set_59 : decode cX8_set 59 = .ok (.iload_n 2, 1) := by decide +kernel
theorem dX8_set_60 : decode cX8_set 60 = .ok (.iastore, 1) := by decide +kernel
theorem dX8_set_61 : decode cX8_set 61 = .ok (.iload_n 3, 1) := by decide +kernel
theorem dX8_set_62 : decode cX8_set 62 = .ok (.ireturn, 1) := by decide +kernel
theorem dX8_thistle_0 : decode cX8_thistle 0 = .ok (.iload_n 1, 1) := by decide +kernel
theorem dX8_thistle_1 : decode cX8_thistle 1 = .ok (.invokestatic 138, 3) := by decide +kernel
theorem dX8_thistle_4 : decode cX8_thistle 4 = .ok (.ifCond .eq 15, 3) := by decide +kernel
theorem dX8_thistle_7 : decode cX8_thistle 7 = .ok (.iload_n 2, 1) := by decide +kernel
theorem dX8_thistle_8 : decode cX8_thistle 8 = .ok (.i2l, 1) := by decide +kernel
theorem dX8_thistle_9 : decode cX8_thistle 9 = .ok (.lconst 0, 1) := by decide +kernel
theorem dX8_thistle_10 : decode cX8_thistle 10 = .ok (.ldc2_w 143, 3) := by decide +kernel
theorem dX8_thistle_13 : decode cX8_thistle 13 = .ok (.invokestatic 77, 3) := by decide +kernel
theorem dX8_thistle_16 : decode cX8_thistle 16 = .ok (.ifCond .ne 6, 3) := by decide +kernel
theorem dX8_thistle_19 : decode cX8_thistle 19 = .ok (.bipush (-2), 2) := by decide +kernel
theorem dX8_thistle_21 : decode cX8_thistle 21 = .ok (.ireturn, 1) := by decide +kernel
theorem dX8_thistle_22 : decode cX8_thistle 22 = .ok (.aload_n 0, 1) := by decide +kernel
theorem dX8_thistle_23 : decode cX8_thistle 23 = .ok (.getfield 37, 3) := by decide +kernel
theorem dX8_thistle_26 : decode cX8_thistle 26 = .ok (.iload_n 1, 1) := by decide +kernel
theorem dX8_thistle_27 : decode cX8_thistle 27 = .ok (.iaload, 1) := by decide +kernel
theorem dX8_thistle_28 : decode cX8_thistle 28 = .ok (.istore_n 3, 1) := by decide +kernel
theorem dX8_thistle_29 : decode cX8_thistle 29 = .ok (.aload_n 0, 1) := by decide +kernel
theorem dX8_thistle_30 : decode cX8_thistle 30 = .ok (.getfield 37, 3) := by decide +kernel
theorem dX8_thistle_33 : decode cX8_thistle 33 = .ok (.iload_n 1, 1) := by decide +kernel
theorem dX8_thistle_34 : decode cX8_thistle 34 = .ok (.iload_n 2, 1) := by decide +kernel
theorem dX8_thistle_35 : decode cX8_thistle 35 = .ok (.iastore, 1) := by decide +kernel
theorem dX8_thistle_36 : decode cX8_thistle 36 = .ok (.iload_n 3, 1) := by decide +kernel
theorem dX8_thistle_37 : decode cX8_thistle 37 = .ok (.ireturn, 1) := by decide +kernel
theorem dX8_read_0 : decode cX8_read 0 = .ok (.iload_n 1, 1) := by decide +kernel
theorem dX8_read_1 : decode cX8_read 1 = .ok (.invokestatic 87, 3) := by decide +kernel
theorem dX8_read_4 : decode cX8_read 4 = .ok (.ifCond .eq 10, 3) := by decide +kernel
theorem dX8_read_7 : decode cX8_read 7 = .ok (.iload_n 2, 1) := by decide +kernel
theorem dX8_read_8 : decode cX8_read 8 = .ok (.invokestatic 135, 3) := by decide +kernel
theorem dX8_read_11 : decode cX8_read 11 = .ok (.ifCond .ne 6, 3) := by decide +kernel
theorem dX8_read_14 : decode cX8_read 14 = .ok (.bipush (-2), 2) := by decide +kernel
theorem dX8_read_16 : decode cX8_read 16 = .ok (.ireturn, 1) := by decide +kernel
theorem dX8_read_17 : decode cX8_read 17 = .ok (.aload_n 0, 1) := by decide +kernel
theorem dX8_read_18 : decode cX8_read 18 = .ok (.getfield 7, 3) := by decide +kernel
theorem dX8_read_21 : decode cX8_read 21 = .ok (.iload_n 1, 1) := by decide +kernel
theorem dX8_read_22 : decode cX8_read 22 = .ok (.iaload, 1) := by decide +kernel
theorem dX8_read_23 : decode cX8_read 23 = .ok (.ifCond .ge 9, 3) := by decide +kernel
theorem dX8_read_26 : decode cX8_read 26 = .ok (.aload_n 0, 1) := by decide +kernel
theorem dX8_read_27 : decode cX8_read 27 = .ok (.iconst 1, 1) := by decide +kernel
theorem dX8_read_28 : decode cX8_read 28 = .ok (.invokevirtual 93, 3) := by decide +kernel
theorem dX8_read_31 : decode cX8_read 31 = .ok (.ireturn, 1) := by decide +kernel
theorem dX8_read_32 : decode cX8_read 32 = .ok (.aload_n 0, 1) := by decide +kernel
theorem dX8_read_33 : decode cX8_read 33 = .ok (.getfield 25, 3) := by decide +kernel
theorem dX8_read_36 : decode cX8_read 36 = .ok (.iconst 1, 1) := by decide +kernel
theorem dX8_read_37 : decode cX8_read 37 = .ok (.iload_n 2, 1) := by decide +kernel
theorem dX8_read_38 : decode cX8_read 38 = .ok (.iadd, 1) := by decide +kernel
theorem dX8_read_39 : decode cX8_read 39 = .ok (.iconst 0, 1) := by decide +kernel
theorem dX8_read_40 : decode cX8_read 40 = .ok (.iastore, 1) := by decide +kernel
theorem dX8_read_41 : decode cX8_read 41 = .ok (.iconst 0, 1) := by decide +kernel
theorem dX8_read_42 : decode cX8_read 42 = .ok (.istore_n 3, 1) := by decide +kernel
theorem dX8_read_43 : decode cX8_read 43 = .ok (.iload_n 3, 1) := by decide +kernel
theorem dX8_read_44 : decode cX8_read 44 = .ok (.aload_n 0, 1) := by decide +kernel
theorem dX8_read_45 : decode cX8_read 45 = .ok (.getfield 13, 3) := by decide +kernel
theorem dX8_read_48 : decode cX8_read 48 = .ok (.iload_n 1, 1) := by decide +kernel
theorem dX8_read_49 : decode cX8_read 49 = .ok (.iaload, 1) := by decide +kernel
theorem dX8_read_50 : decode cX8_read 50 = .ok (.if_icmp .ge 81, 3) := by decide +kernel
theorem dX8_read_53 : decode cX8_read 53 = .ok (.iload_n 3, 1) := by decide +kernel
theorem dX8_read_54 : decode cX8_read 54 = .ok (.bipush 40, 2) := by decide +kernel
theorem dX8_read_56 : decode cX8_read 56 = .ok (.if_icmp .ge 75, 3) := by decide +kernel
theorem dX8_read_59 : decode cX8_read 59 = .ok (.aload_n 0, 1) := by decide +kernel
theorem dX8_read_60 : decode cX8_read 60 = .ok (.getfield 16, 3) := by decide +kernel
theorem dX8_read_63 : decode cX8_read 63 = .ok (.bipush 60, 2) := by decide +kernel
theorem dX8_read_65 : decode cX8_read 65 = .ok (.iload_n 1, 1) := by decide +kernel
theorem dX8_read_66 : decode cX8_read 66 = .ok (.imul, 1) := by decide +kernel
theorem dX8_read_67 : decode cX8_read 67 = .ok (.iload_n 3, 1) := by decide +kernel
theorem dX8_read_68 : decode cX8_read 68 = .ok (.iadd, 1) := by decide +kernel
theorem dX8_read_69 : decode cX8_read 69 = .ok (.iaload, 1) := by decide +kernel
theorem dX8_read_70 : decode cX8_read 70 = .ok (.i2l, 1) := by decide +kernel
theorem dX8_read_71 : decode cX8_read 71 = .ok (.lconst 0, 1) := by decide +kernel
theorem dX8_read_72 : decode cX8_read 72 = .ok (.ldc2_w 145, 3) := by decide +kernel
theorem dX8_read_75 : decode cX8_read 75 = .ok (.invokestatic 77, 3) := by decide +kernel
theorem dX8_read_78 : decode cX8_read 78 = .ok (.ifCond .eq 53, 3) := by decide +kernel
theorem dX8_read_81 : decode cX8_read 81 = .ok (.aload_n 0, 1) := by decide +kernel
theorem dX8_read_82 : decode cX8_read 82 = .ok (.getfield 16, 3) := by decide +kernel
theorem dX8_read_85 : decode cX8_read 85 = .ok (.bipush 60, 2) := by decide +kernel
theorem dX8_read_87 : decode cX8_read 87 = .ok (.iload_n 1, 1) := by decide +kernel
theorem dX8_read_88 : decode cX8_read 88 = .ok (.imul, 1) := by decide +kernel
theorem dX8_read_89 : decode cX8_read 89 = .ok (.iload_n 3, 1) := by decide +kernel
theorem dX8_read_90 : decode cX8_read 90 = .ok (.iadd, 1) := by decide +kernel
theorem dX8_read_91 : decode cX8_read 91 = .ok (.iaload, 1) := by decide +kernel
theorem dX8_read_92 : decode cX8_read 92 = .ok (.istore 4, 2) := by decide +kernel
theorem dX8_read_94 : decode cX8_read 94 = .ok (.aload_n 0, 1) := by decide +kernel
theorem dX8_read_95 : decode cX8_read 95 = .ok (.iconst 1, 1) := by decide +kernel
theorem dX8_read_96 : decode cX8_read 96 = .ok (.iload_n 2, 1) := by decide +kernel
theorem dX8_read_97 : decode cX8_read 97 = .ok (.iadd, 1) := by decide +kernel
theorem dX8_read_98 : decode cX8_read 98 = .ok (.iload 4, 2) := by decide +kernel
theorem dX8_read_100 : decode cX8_read 100 = .ok (.bipush 8, 2) := by decide +kernel
theorem dX8_read_102 : decode cX8_read 102 = .ok (.if_icmp .ge 11, 3) := by decide +kernel
theorem dX8_read_105 : decode cX8_read 105 = .ok (.bipush 97, 2) := by decide +kernel
theorem dX8_read_107 : decode cX8_read 107 = .ok (.iload 4, 2) := by decide +kernel
theorem dX8_read_109 : decode cX8_read 109 = .ok (.iadd, 1) := by decide +kernel
theorem dX8_read_110 : decode cX8_read 110 = .ok (.goto 11, 3) := by decide +kernel
theorem dX8_read_113 : decode cX8_read 113 = .ok (.bipush 65, 2) := by decide +kernel
theorem dX8_read_115 : decode cX8_read 115 = .ok (.iload 4, 2) := by decide +kernel
theorem dX8_read_117 : decode cX8_read 117 = .ok (.iadd, 1) := by decide +kernel
theorem dX8_read_118 : decode cX8_read 118 = .ok (.bipush 8, 2) := by decide +kernel
theorem dX8_read_120 : decode cX8_read 120 = .ok (.isub, 1) := by decide +kernel
theorem dX8_read_121 : decode cX8_read 121 = .ok (.invokevirtual 147, 3) := by decide +kernel
theorem dX8_read_124 : decode cX8_read 124 = .ok (.pop, 1) := by decide +kernel
theorem dX8_read_125 : decode cX8_read 125 = .ok (.iinc 3 1, 3) := by decide +kernel
theorem dX8_read_128 : decode cX8_read 128 = .ok (.goto (-85), 3) := by decide +kernel
theorem dX8_read_131 : decode cX8_read 131 = .ok (.iload_n 3, 1) := by decide +kernel
theorem dX8_read_132 : decode cX8_read 132 = .ok (.ireturn, 1) := by decide +kernel
theorem dX8_undo_0 : decode cX8_undo 0 = .ok (.iload_n 1, 1) := by decide +kernel
theorem dX8_undo_1 : decode cX8_undo 1 = .ok (.invokestatic 135, 3) := by decide +kernel
theorem dX8_undo_4 : decode cX8_undo 4 = .ok (.ifCond .ne 6, 3) := by decide +kernel
theorem dX8_undo_7 : decode cX8_undo 7 = .ok (.bipush (-2), 2) := by decide +kernel
theorem dX8_undo_9 : decode cX8_undo 9 = .ok (.ireturn, 1) := by decide +kernel
theorem dX8_undo_10 : decode cX8_undo 10 = .ok (.aload_n 0, 1) := by decide +kernel
theorem dX8_undo_11 : decode cX8_undo 11 = .ok (.getfield 25, 3) := by decide +kernel
theorem dX8_undo_14 : decode cX8_undo 14 = .ok (.iconst 1, 1) := by decide +kernel
theorem dX8_undo_15 : decode cX8_undo 15 = .ok (.iload_n 1, 1) := by decide +kernel
theorem dX8_undo_16 : decode cX8_undo 16 = .ok (.iadd, 1) := by decide +kernel
theorem dX8_undo_17 : decode cX8_undo 17 = .ok (.iaload, 1) := by decide +kernel
theorem dX8_undo_18 : decode cX8_undo 18 = .ok (.ifCond .ne 6, 3) := by decide +kernel
theorem dX8_undo_21 : decode cX8_undo 21 = .ok (.bipush (-3), 2) := by decide +kernel
theorem dX8_undo_23 : decode cX8_undo 23 = .ok (.ireturn, 1) := by decide +kernel
theorem dX8_undo_24 : decode cX8_undo 24 = .ok (.aload_n 0, 1) := by decide +kernel
theorem dX8_undo_25 : decode cX8_undo 25 = .ok (.getfield 25, 3) := by decide +kernel
theorem dX8_undo_28 : decode cX8_undo 28 = .ok (.iconst 1, 1) := by decide +kernel
theorem dX8_undo_29 : decode cX8_undo 29 = .ok (.iload_n 1, 1) := by decide +kernel
theorem dX8_undo_30 : decode cX8_undo 30 = .ok (.iadd, 1) := by decide +kernel
theorem dX8_undo_31 : decode cX8_undo 31 = .ok (.dup2, 1) := by decide +kernel
theorem dX8_undo_32 : decode cX8_undo 32 = .ok (.iaload, 1) := by decide +kernel
theorem dX8_undo_33 : decode cX8_undo 33 = .ok (.iconst 1, 1) := by decide +kernel
theorem dX8_undo_34 : decode cX8_undo 34 = .ok (.isub, 1) := by decide +kernel
theorem dX8_undo_35 : decode cX8_undo 35 = .ok (.iastore, 1) := by decide +kernel
theorem dX8_undo_36 : decode cX8_undo 36 = .ok (.aload_n 0, 1) := by decide +kernel
theorem dX8_undo_37 : decode cX8_undo 37 = .ok (.getfield 25, 3) := by decide +kernel
theorem dX8_undo_40 : decode cX8_undo 40 = .ok (.iconst 1, 1) := by decide +kernel
theorem dX8_undo_41 : decode cX8_undo 41 = .ok (.iload_n 1, 1) := by decide +kernel
theorem dX8_undo_42 : decode cX8_undo 42 = .ok (.iadd, 1) := by decide +kernel
theorem dX8_undo_43 : decode cX8_undo 43 = .ok (.iaload, 1) := by decide +kernel
theorem dX8_undo_44 : decode cX8_undo 44 = .ok (.ireturn, 1) := by decide +kernel
theorem dX8_touches_0 : decode cX8_touches 0 = .ok (.aload_n 0, 1) := by decide +kernel
theorem dX8_touches_1 : decode cX8_touches 1 = .ok (.getfield 28, 3) := by decide +kernel
theorem dX8_touches_4 : decode cX8_touches 4 = .ok (.iconst 3, 1) := by decide +kernel
theorem dX8_touches_5 : decode cX8_touches 5 = .ok (.iload_n 1, 1) := by decide +kernel
theorem dX8_touches_6 : decode cX8_touches 6 = .ok (.imul, 1) := by decide +kernel
theorem dX8_touches_7 : decode cX8_touches 7 = .ok (.iaload, 1) := by decide +kernel
theorem dX8_touches_8 : decode cX8_touches 8 = .ok (.iload_n 2, 1) := by decide +kernel
theorem dX8_touches_9 : decode cX8_touches 9 = .ok (.if_icmp .eq 17, 3) := by decide +kernel
theorem dX8_touches_12 : decode cX8_touches 12 = .ok (.aload_n 0, 1) := by decide +kernel
theorem dX8_touches_13 : decode cX8_touches 13 = .ok (.getfield 28, 3) := by decide +kernel
theorem dX8_touches_16 : decode cX8_touches 16 = .ok (.iconst 3, 1) := by decide +kernel
theorem dX8_touches_17 : decode cX8_touches 17 = .ok (.iload_n 1, 1) := by decide +kernel
theorem dX8_touches_18 : decode cX8_touches 18 = .ok (.imul, 1) := by decide +kernel
theorem dX8_touches_19 : decode cX8_touches 19 = .ok (.iconst 1, 1) := by decide +kernel
theorem dX8_touches_20 : decode cX8_touches 20 = .ok (.iadd, 1) := by decide +kernel
theorem dX8_touches_21 : decode cX8_touches 21 = .ok (.iaload, 1) := by decide +kernel
theorem dX8_touches_22 : decode cX8_touches 22 = .ok (.iload_n 2, 1) := by decide +kernel
theorem dX8_touches_23 : decode cX8_touches 23 = .ok (.if_icmp .ne 7, 3) := by decide +kernel
theorem dX8_touches_26 : decode cX8_touches 26 = .ok (.iconst 1, 1) := by decide +kernel
theorem dX8_touches_27 : decode cX8_touches 27 = .ok (.goto 4, 3) := by decide +kernel
theorem dX8_touches_30 : decode cX8_touches 30 = .ok (.iconst 0, 1) := by decide +kernel
theorem dX8_touches_31 : decode cX8_touches 31 = .ok (.ireturn, 1) := by decide +kernel
theorem dX8_otherEnd_0 : decode cX8_otherEnd 0 = .ok (.aload_n 0, 1) := by decide +kernel
theorem dX8_otherEnd_1 : decode cX8_otherEnd 1 = .ok (.getfield 28, 3) := by decide +kernel
theorem dX8_otherEnd_4 : decode cX8_otherEnd 4 = .ok (.iconst 3, 1) := by decide +kernel
theorem dX8_otherEnd_5 : decode cX8_otherEnd 5 = .ok (.iload_n 1, 1) := by decide +kernel
theorem dX8_otherEnd_6 : decode cX8_otherEnd 6 = .ok (.imul, 1) := by decide +kernel
theorem dX8_otherEnd_7 : decode cX8_otherEnd 7 = .ok (.iaload, 1) := by decide +kernel
theorem dX8_otherEnd_8 : decode cX8_otherEnd 8 = .ok (.aload_n 0, 1) := by decide +kernel
theorem dX8_otherEnd_9 : decode cX8_otherEnd 9 = .ok (.getfield 28, 3) := by decide +kernel
theorem dX8_otherEnd_12 : decode cX8_otherEnd 12 = .ok (.iconst 3, 1) := by decide +kernel
theorem dX8_otherEnd_13 : decode cX8_otherEnd 13 = .ok (.iload_n 1, 1) := by decide +kernel
theorem dX8_otherEnd_14 : decode cX8_otherEnd 14 = .ok (.imul, 1) := by decide +kernel
theorem dX8_otherEnd_15 : decode cX8_otherEnd 15 = .ok (.iconst 1, 1) := by decide +kernel
theorem dX8_otherEnd_16 : decode cX8_otherEnd 16 = .ok (.iadd, 1) := by decide +kernel
theorem dX8_otherEnd_17 : decode cX8_otherEnd 17 = .ok (.iaload, 1) := by decide +kernel
theorem dX8_otherEnd_18 : decode cX8_otherEnd 18 = .ok (.iadd, 1) := by decide +kernel
theorem dX8_otherEnd_19 : decode cX8_otherEnd 19 = .ok (.iload_n 2, 1) := by decide +kernel
theorem dX8_otherEnd_20 : decode cX8_otherEnd 20 = .ok (.isub, 1) := by decide +kernel
theorem dX8_otherEnd_21 : decode cX8_otherEnd 21 = .ok (.ireturn, 1) := by decide +kernel
theorem dX8_next_0 : decode cX8_next 0 = .ok (.aload_n 0, 1) := by decide +kernel
theorem dX8_next_1 : decode cX8_next 1 = .ok (.getfield 150, 3) := by decide +kernel
theorem dX8_next_4 : decode cX8_next 4 = .ok (.ifCond .ne 7, 3) := by decide +kernel
theorem dX8_next_7 : decode cX8_next 7 = .ok (.iconst (-1), 1) := by decide +kernel
theorem dX8_next_8 : decode cX8_next 8 = .ok (.goto 27, 3) := by decide +kernel
theorem dX8_next_11 : decode cX8_next 11 = .ok (.iload_n 1, 1) := by decide +kernel
theorem dX8_next_12 : decode cX8_next 12 = .ok (.ifCond .ne 12, 3) := by decide +kernel
theorem dX8_next_15 : decode cX8_next 15 = .ok (.aload_n 0, 1) := by decide +kernel
theorem dX8_next_16 : decode cX8_next 16 = .ok (.getfield 43, 3) := by decide +kernel
theorem dX8_next_19 : decode cX8_next 19 = .ok (.iconst 0, 1) := by decide +kernel
theorem dX8_next_20 : decode cX8_next 20 = .ok (.iaload, 1) := by decide +kernel
theorem dX8_next_21 : decode cX8_next 21 = .ok (.goto 14, 3) := by decide +kernel
theorem dX8_next_24 : decode cX8_next 24 = .ok (.aload_n 0, 1) := by decide +kernel
theorem dX8_next_25 : decode cX8_next 25 = .ok (.getfield 43, 3) := by decide +kernel
theorem dX8_next_28 : decode cX8_next 28 = .ok (.aload_n 0, 1) := by decide +kernel
theorem dX8_next_29 : decode cX8_next 29 = .ok (.getfield 150, 3) := by decide +kernel
theorem dX8_next_32 : decode cX8_next 32 = .ok (.iconst 1, 1) := by decide +kernel
theorem dX8_next_33 : decode cX8_next 33 = .ok (.isub, 1) := by decide +kernel
theorem dX8_next_34 : decode cX8_next 34 = .ok (.iaload, 1) := by decide +kernel
theorem dX8_next_35 : decode cX8_next 35 = .ok (.ireturn, 1) := by decide +kernel
theorem dX8_goes_0 : decode cX8_goes 0 = .ok (.aload_n 0, 1) := by decide +kernel
theorem dX8_goes_1 : decode cX8_goes 1 = .ok (.iload_n 1, 1) := by decide +kernel
theorem dX8_goes_2 : decode cX8_goes 2 = .ok (.invokevirtual 153, 3) := by decide +kernel
theorem dX8_goes_5 : decode cX8_goes 5 = .ok (.iload_n 2, 1) := by decide +kernel
theorem dX8_goes_6 : decode cX8_goes 6 = .ok (.if_icmp .ne 7, 3) := by decide +kernel
theorem dX8_goes_9 : decode cX8_goes 9 = .ok (.iconst 1, 1) := by decide +kernel
theorem dX8_goes_10 : decode cX8_goes 10 = .ok (.goto 4, 3) := by decide +kernel
theorem dX8_goes_13 : decode cX8_goes 13 = .ok (.iconst 0, 1) := by decide +kernel
theorem dX8_goes_14 : decode cX8_goes 14 = .ok (.istore_n 3, 1) := by decide +kernel
theorem dX8_goes_15 : decode cX8_goes 15 = .ok (.aload_n 0, 1) := by decide +kernel
theorem dX8_goes_16 : decode cX8_goes 16 = .ok (.getfield 40, 3) := by decide +kernel
theorem dX8_goes_19 : decode cX8_goes 19 = .ok (.iload_n 1, 1) := by decide +kernel
theorem dX8_goes_20 : decode cX8_goes 20 = .ok (.aload_n 0, 1) := by decide +kernel
theorem dX8_goes_21 : decode cX8_goes 21 = .ok (.iload_n 2, 1) := by decide +kernel
theorem dX8_goes_22 : decode cX8_goes 22 = .ok (.aload_n 0, 1) := by decide +kernel
theorem dX8_goes_23 : decode cX8_goes 23 = .ok (.getfield 40, 3) := by decide +kernel
theorem dX8_goes_26 : decode cX8_goes 26 = .ok (.iload_n 1, 1) := by decide +kernel
theorem dX8_goes_27 : decode cX8_goes 27 = .ok (.iaload, 1) := by decide +kernel
theorem dX8_goes_28 : decode cX8_goes 28 = .ok (.invokevirtual 156, 3) := by decide +kernel
theorem dX8_goes_31 : decode cX8_goes 31 = .ok (.iastore, 1) := by decide +kernel
theorem dX8_goes_32 : decode cX8_goes 32 = .ok (.aload_n 0, 1) := by decide +kernel
theorem dX8_goes_33 : decode cX8_goes 33 = .ok (.dup, 1) := by decide +kernel
theorem dX8_goes_34 : decode cX8_goes 34 = .ok (.getfield 159, 3) := by decide +kernel
theorem dX8_goes_37 : decode cX8_goes 37 = .ok (.iload_n 3, 1) := by decide +kernel
theorem dX8_goes_38 : decode cX8_goes 38 = .ok (.ifCond .eq 17, 3) := by decide +kernel
theorem dX8_goes_41 : decode cX8_goes 41 = .ok (.aload_n 0, 1) := by decide +kernel
theorem dX8_goes_42 : decode cX8_goes 42 = .ok (.getfield 28, 3) := by decide +kernel
theorem dX8_goes_45 : decode cX8_goes 45 = .ok (.iconst 3, 1) := by decide +kernel
theorem dX8_goes_46 : decode cX8_goes 46 = .ok (.iload_n 2, 1) := by decide +kernel
theorem dX8_goes_47 : decode cX8_goes 47 = .ok (.imul, 1) := by decide +kernel
theorem dX8_goes_48 : decode cX8_goes 48 = .ok (.iconst 2, 1) := by decide +kernel
theorem dX8_goes_49 : decode cX8_goes 49 = .ok (.iadd, 1) := by decide +kernel
theorem dX8_goes_50 : decode cX8_goes 50 = .ok (.iaload, 1) := by decide +kernel
theorem dX8_goes_51 : decode cX8_goes 51 = .ok (.ineg, 1) := by decide +kernel
theorem dX8_goes_52 : decode cX8_goes 52 = .ok (.goto 13, 3) := by decide +kernel
theorem dX8_goes_55 : decode cX8_goes 55 = .ok (.aload_n 0, 1) := by decide +kernel
theorem dX8_goes_56 : decode cX8_goes 56 = .ok (.getfield 28, 3) := by decide +kernel
theorem dX8_goes_59 : decode cX8_goes 59 = .ok (.iconst 3, 1) := by decide +kernel
theorem dX8_goes_60 : decode cX8_goes 60 = .ok (.iload_n 2, 1) := by decide +kernel
theorem dX8_goes_61 : decode cX8_goes 61 = .ok (.imul, 1) := by decide +kernel
theorem dX8_goes_62 : decode cX8_goes 62 = .ok (.iconst 2, 1) := by decide +kernel
theorem dX8_goes_63 : decode cX8_goes 63 = .ok (.iadd, 1) := by decide +kernel
theorem dX8_goes_64 : decode cX8_goes 64 = .ok (.iaload, 1) := by decide +kernel
theorem dX8_goes_65 : decode cX8_goes 65 = .ok (.iadd, 1) := by decide +kernel
theorem dX8_goes_66 : decode cX8_goes 66 = .ok (.putfield 159, 3) := by decide +kernel
theorem dX8_goes_69 : decode cX8_goes 69 = .ok (.iload_n 1, 1) := by decide +kernel
theorem dX8_goes_70 : decode cX8_goes 70 = .ok (.ifCond .ne 41, 3) := by decide +kernel
theorem dX8_goes_73 : decode cX8_goes 73 = .ok (.iload_n 3, 1) := by decide +kernel
theorem dX8_goes_74 : decode cX8_goes 74 = .ok (.ifCond .eq 37, 3) := by decide +kernel
theorem dX8_goes_77 : decode cX8_goes 77 = .ok (.iconst 1, 1) := by decide +kernel
theorem dX8_goes_78 : decode cX8_goes 78 = .ok (.istore 4, 2) := by decide +kernel
theorem dX8_goes_80 : decode cX8_goes 80 = .ok (.iload 4, 2) := by decide +kernel
theorem dX8_goes_82 : decode cX8_goes 82 = .ok (.aload_n 0, 1) := by decide +kernel
theorem dX8_goes_83 : decode cX8_goes 83 = .ok (.getfield 150, 3) := by decide +kernel
theorem dX8_goes_86 : decode cX8_goes 86 = .ok (.if_icmp .ge 25, 3) := by decide +kernel
theorem dX8_goes_89 : decode cX8_goes 89 = .ok (.aload_n 0, 1) := by decide +kernel
theorem dX8_goes_90 : decode cX8_goes 90 = .ok (.getfield 43, 3) := by decide +kernel
theorem dX8_goes_93 : decode cX8_goes 93 = .ok (.iload 4, 2) := by decide +kernel
theorem dX8_goes_95 : decode cX8_goes 95 = .ok (.iconst 1, 1) := by decide +kernel
theorem dX8_goes_96 : decode cX8_goes 96 = .ok (.isub, 1) := by decide +kernel
theorem dX8_goes_97 : decode cX8_goes 97 = .ok (.aload_n 0, 1) := by decide +kernel
theorem dX8_goes_98 : decode cX8_goes 98 = .ok (.getfield 43, 3) := by decide +kernel
theorem dX8_goes_101 : decode cX8_goes 101 = .ok (.iload 4, 2) := by decide +kernel
theorem dX8_goes_103 : decode cX8_goes 103 = .ok (.iaload, 1) := by decide +kernel
theorem dX8_goes_104 : decode cX8_goes 104 = .ok (.iastore, 1) := by decide +kernel
theorem dX8_goes_105 : decode cX8_goes 105 = .ok (.iinc 4 1, 3) := by decide +kernel
theorem dX8_goes_108 : decode cX8_goes 108 = .ok (.goto (-28), 3) := by decide +kernel
theorem dX8_goes_111 : decode cX8_goes 111 = .ok (.iload_n 1, 1) := by decide +kernel
theorem dX8_goes_112 : decode cX8_goes 112 = .ok (.ifCond .ne 47, 3) := by decide +kernel
theorem dX8_goes_115 : decode cX8_goes 115 = .ok (.iload_n 3, 1) := by decide +kernel
theorem dX8_goes_116 : decode cX8_goes 116 = .ok (.ifCond .ne 43, 3) := by decide +kernel
theorem dX8_goes_119 : decode cX8_goes 119 = .ok (.aload_n 0, 1) := by decide +kernel
theorem dX8_goes_120 : decode cX8_goes 120 = .ok (.getfield 150, 3) := by decide +kernel
theorem dX8_goes_123 : decode cX8_goes 123 = .ok (.istore 4, 2) := by decide +kernel
theorem dX8_goes_125 : decode cX8_goes 125 = .ok (.iload 4, 2) := by decide +kernel
theorem dX8_goes_127 : decode cX8_goes 127 = .ok (.ifCond .le 25, 3) := by decide +kernel
theorem dX8_goes_130 : decode cX8_goes 130 = .ok (.aload_n 0, 1) := by decide +kernel
theorem dX8_goes_131 : decode cX8_goes 131 = .ok (.getfield 43, 3) := by decide +kernel
theorem dX8_goes_134 : decode cX8_goes 134 = .ok (.iload 4, 2) := by decide +kernel
theorem dX8_goes_136 : decode cX8_goes 136 = .ok (.aload_n 0, 1) := by decide +kernel
theorem dX8_goes_137 : decode cX8_goes 137 = .ok (.getfield 43, 3) := by decide +kernel
theorem dX8_goes_140 : decode cX8_goes 140 = .ok (.iload 4, 2) := by decide +kernel
theorem dX8_goes_142 : decode cX8_goes 142 = .ok (.iconst 1, 1) := by decide +kernel
theorem dX8_goes_143 : decode cX8_goes 143 = .ok (.isub, 1) := by decide +kernel
theorem dX8_goes_144 : decode cX8_goes 144 = .ok (.iaload, 1) := by decide +kernel
theorem dX8_goes_145 : decode cX8_goes 145 = .ok (.iastore, 1) := by decide +kernel
theorem dX8_goes_146 : decode cX8_goes 146 = .ok (.iinc 4 (-1), 3) := by decide +kernel
theorem dX8_goes_149 : decode cX8_goes 149 = .ok (.goto (-24), 3) := by decide +kernel
theorem dX8_goes_152 : decode cX8_goes 152 = .ok (.aload_n 0, 1) := by decide +kernel
theorem dX8_goes_153 : decode cX8_goes 153 = .ok (.getfield 43, 3) := by decide +kernel
theorem dX8_goes_156 : decode cX8_goes 156 = .ok (.iconst 0, 1) := by decide +kernel
theorem dX8_goes_157 : decode cX8_goes 157 = .ok (.iload_n 2, 1) := by decide +kernel
theorem dX8_goes_158 : decode cX8_goes 158 = .ok (.iastore, 1) := by decide +kernel
theorem dX8_goes_159 : decode cX8_goes 159 = .ok (.iload_n 1, 1) := by decide +kernel
theorem dX8_goes_160 : decode cX8_goes 160 = .ok (.iconst 1, 1) := by decide +kernel
theorem dX8_goes_161 : decode cX8_goes 161 = .ok (.if_icmp .ne 17, 3) := by decide +kernel
theorem dX8_goes_164 : decode cX8_goes 164 = .ok (.iload_n 3, 1) := by decide +kernel
theorem dX8_goes_165 : decode cX8_goes 165 = .ok (.ifCond .ne 13, 3) := by decide +kernel
theorem dX8_goes_168 : decode cX8_goes 168 = .ok (.aload_n 0, 1) := by decide +kernel
theorem dX8_goes_169 : decode cX8_goes 169 = .ok (.getfield 43, 3) := by decide +kernel
theorem dX8_goes_172 : decode cX8_goes 172 = .ok (.aload_n 0, 1) := by decide +kernel
theorem dX8_goes_173 : decode cX8_goes 173 = .ok (.getfield 150, 3) := by decide +kernel
theorem dX8_goes_176 : decode cX8_goes 176 = .ok (.iload_n 2, 1) := by decide +kernel
theorem dX8_goes_177 : decode cX8_goes 177 = .ok (.iastore, 1) := by decide +kernel
theorem dX8_goes_178 : decode cX8_goes 178 = .ok (.aload_n 0, 1) := by decide +kernel
theorem dX8_goes_179 : decode cX8_goes 179 = .ok (.dup, 1) := by decide +kernel
theorem dX8_goes_180 : decode cX8_goes 180 = .ok (.getfield 150, 3) := by decide +kernel
theorem dX8_goes_183 : decode cX8_goes 183 = .ok (.iload_n 3, 1) := by decide +kernel
theorem dX8_goes_184 : decode cX8_goes 184 = .ok (.ifCond .eq 7, 3) := by decide +kernel
theorem dX8_goes_187 : decode cX8_goes 187 = .ok (.iconst (-1), 1) := by decide +kernel
theorem dX8_goes_188 : decode cX8_goes 188 = .ok (.goto 4, 3) := by decide +kernel
theorem dX8_goes_191 : decode cX8_goes 191 = .ok (.iconst 1, 1) := by decide +kernel
theorem dX8_goes_192 : decode cX8_goes 192 = .ok (.iadd, 1) := by decide +kernel
theorem dX8_goes_193 : decode cX8_goes 193 = .ok (.putfield 150, 3) := by decide +kernel
theorem dX8_goes_196 : decode cX8_goes 196 = .ok (.return_, 1) := by decide +kernel
theorem dX8_begins_0 : decode cX8_begins 0 = .ok (.aload_n 0, 1) := by decide +kernel
theorem dX8_begins_1 : decode cX8_begins 1 = .ok (.getfield 40, 3) := by decide +kernel
theorem dX8_begins_4 : decode cX8_begins 4 = .ok (.iconst 0, 1) := by decide +kernel
theorem dX8_begins_5 : decode cX8_begins 5 = .ok (.aload_n 0, 1) := by decide +kernel
theorem dX8_begins_6 : decode cX8_begins 6 = .ok (.getfield 31, 3) := by decide +kernel
theorem dX8_begins_9 : decode cX8_begins 9 = .ok (.iload_n 1, 1) := by decide +kernel
theorem dX8_begins_10 : decode cX8_begins 10 = .ok (.iaload, 1) := by decide +kernel
theorem dX8_begins_11 : decode cX8_begins 11 = .ok (.iastore, 1) := by decide +kernel
theorem dX8_begins_12 : decode cX8_begins 12 = .ok (.aload_n 0, 1) := by decide +kernel
theorem dX8_begins_13 : decode cX8_begins 13 = .ok (.getfield 40, 3) := by decide +kernel
theorem dX8_begins_16 : decode cX8_begins 16 = .ok (.iconst 1, 1) := by decide +kernel
theorem dX8_begins_17 : decode cX8_begins 17 = .ok (.aload_n 0, 1) := by decide +kernel
theorem dX8_begins_18 : decode cX8_begins 18 = .ok (.getfield 31, 3) := by decide +kernel
theorem dX8_begins_21 : decode cX8_begins 21 = .ok (.iload_n 1, 1) := by decide +kernel
theorem dX8_begins_22 : decode cX8_begins 22 = .ok (.iaload, 1) := by decide +kernel
theorem dX8_begins_23 : decode cX8_begins 23 = .ok (.iastore, 1) := by decide +kernel
theorem dX8_begins_24 : decode cX8_begins 24 = .ok (.aload_n 0, 1) := by decide +kernel
theorem dX8_begins_25 : decode cX8_begins 25 = .ok (.iconst 0, 1) := by decide +kernel
theorem dX8_begins_26 : decode cX8_begins 26 = .ok (.putfield 150, 3) := by decide +kernel
theorem dX8_begins_29 : decode cX8_begins 29 = .ok (.aload_n 0, 1) := by decide +kernel
theorem dX8_begins_30 : decode cX8_begins 30 = .ok (.iconst 0, 1) := by decide +kernel
theorem dX8_begins_31 : decode cX8_begins 31 = .ok (.putfield 159, 3) := by decide +kernel
theorem dX8_begins_34 : decode cX8_begins 34 = .ok (.aload_n 0, 1) := by decide +kernel
theorem dX8_begins_35 : decode cX8_begins 35 = .ok (.iconst 0, 1) := by decide +kernel
theorem dX8_begins_36 : decode cX8_begins 36 = .ok (.putfield 162, 3) := by decide +kernel
theorem dX8_begins_39 : decode cX8_begins 39 = .ok (.iconst 0, 1) := by decide +kernel
theorem dX8_begins_40 : decode cX8_begins 40 = .ok (.istore_n 2, 1) := by decide +kernel
theorem dX8_begins_41 : decode cX8_begins 41 = .ok (.iload_n 2, 1) := by decide +kernel
theorem dX8_begins_42 : decode cX8_begins 42 = .ok (.iconst 2, 1) := by decide +kernel
theorem dX8_begins_43 : decode cX8_begins 43 = .ok (.if_icmp .ge 23, 3) := by decide +kernel
theorem dX8_begins_46 : decode cX8_begins 46 = .ok (.aload_n 0, 1) := by decide +kernel
theorem dX8_begins_47 : decode cX8_begins 47 = .ok (.getfield 46, 3) := by decide +kernel
theorem dX8_begins_50 : decode cX8_begins 50 = .ok (.iload_n 2, 1) := by decide +kernel
theorem dX8_begins_51 : decode cX8_begins 51 = .ok (.iconst 0, 1) := by decide +kernel
theorem dX8_begins_52 : decode cX8_begins 52 = .ok (.iastore, 1) := by decide +kernel
theorem dX8_begins_53 : decode cX8_begins 53 = .ok (.aload_n 0, 1) := by decide +kernel
theorem dX8_begins_54 : decode cX8_begins 54 = .ok (.getfield 49, 3) := by decide +kernel
theorem dX8_begins_57 : decode cX8_begins 57 = .ok (.iload_n 2, 1) := by decide +kernel
theorem dX8_begins_58 : decode cX8_begins 58 = .ok (.iconst 0, 1) := by decide +kernel
theorem dX8_begins_59 : decode cX8_begins 59 = .ok (.iastore, 1) := by decide +kernel
theorem dX8_begins_60 : decode cX8_begins 60 = .ok (.iinc 2 1, 3) := by decide +kernel
theorem dX8_begins_63 : decode cX8_begins 63 = .ok (.goto (-22), 3) := by decide +kernel
theorem dX8_begins_66 : decode cX8_begins 66 = .ok (.return_, 1) := by decide +kernel
theorem dX8_stepOf_0 : decode cX8_stepOf 0 = .ok (.aload_n 0, 1) := by decide +kernel
theorem dX8_stepOf_1 : decode cX8_stepOf 1 = .ok (.getfield 22, 3) := by decide +kernel
theorem dX8_stepOf_4 : decode cX8_stepOf 4 = .ok (.bipush 40, 2) := by decide +kernel
theorem dX8_stepOf_6 : decode cX8_stepOf 6 = .ok (.bipush 40, 2) := by decide +kernel
theorem dX8_stepOf_8 : decode cX8_stepOf 8 = .ok (.iload_n 1, 1) := by decide +kernel
theorem dX8_stepOf_9 : decode cX8_stepOf 9 = .ok (.imul, 1) := by decide +kernel
theorem dX8_stepOf_10 : decode cX8_stepOf 10 = .ok (.iadd, 1) := by decide +kernel
theorem dX8_stepOf_11 : decode cX8_stepOf 11 = .ok (.iload_n 2, 1) := by decide +kernel
theorem dX8_stepOf_12 : decode cX8_stepOf 12 = .ok (.iadd, 1) := by decide +kernel
theorem dX8_stepOf_13 : decode cX8_stepOf 13 = .ok (.iaload, 1) := by decide +kernel
theorem dX8_stepOf_14 : decode cX8_stepOf 14 = .ok (.istore_n 3, 1) := by decide +kernel
theorem dX8_stepOf_15 : decode cX8_stepOf 15 = .ok (.iload_n 3, 1) := by decide +kernel
theorem dX8_stepOf_16 : decode cX8_stepOf 16 = .ok (.i2l, 1) := by decide +kernel
theorem dX8_stepOf_17 : decode cX8_stepOf 17 = .ok (.ldc2_w 165, 3) := by decide +kernel
theorem dX8_stepOf_20 : decode cX8_stepOf 20 = .ok (.ldc2_w 167, 3) := by decide +kernel
theorem dX8_stepOf_23 : decode cX8_stepOf 23 = .ok (.invokestatic 77, 3) := by decide +kernel
theorem dX8_stepOf_26 : decode cX8_stepOf 26 = .ok (.ifCond .eq 10, 3) := by decide +kernel
theorem dX8_stepOf_29 : decode cX8_stepOf 29 = .ok (.iload_n 3, 1) := by decide +kernel
theorem dX8_stepOf_30 : decode cX8_stepOf 30 = .ok (.bipush 97, 2) := by decide +kernel
theorem dX8_stepOf_32 : decode cX8_stepOf 32 = .ok (.isub, 1) := by decide +kernel
theorem dX8_stepOf_33 : decode cX8_stepOf 33 = .ok (.goto 28, 3) := by decide +kernel
theorem dX8_stepOf_36 : decode cX8_stepOf 36 = .ok (.iload_n 3, 1) := by decide +kernel
theorem dX8_stepOf_37 : decode cX8_stepOf 37 = .ok (.i2l, 1) := by decide +kernel
theorem dX8_stepOf_38 : decode cX8_stepOf 38 = .ok (.ldc2_w 169, 3) := by decide +kernel
theorem dX8_stepOf_41 : decode cX8_stepOf 41 = .ok (.ldc2_w 171, 3) := by decide +kernel
theorem dX8_stepOf_44 : decode cX8_stepOf 44 = .ok (.invokestatic 77, 3) := by decide +kernel
theorem dX8_stepOf_47 : decode cX8_stepOf 47 = .ok (.ifCond .eq 13, 3) := by decide +kernel
theorem dX8_stepOf_50 : decode cX8_stepOf 50 = .ok (.bipush 8, 2) := by decide +kernel
theorem dX8_stepOf_52 : decode cX8_stepOf 52 = .ok (.iload_n 3, 1) := by decide +kernel
theorem dX8_stepOf_53 : decode cX8_stepOf 53 = .ok (.iadd, 1) := by decide +kernel
theorem dX8_stepOf_54 : decode cX8_stepOf 54 = .ok (.bipush 65, 2) := by decide +kernel
theorem dX8_stepOf_56 : decode cX8_stepOf 56 = .ok (.isub, 1) := by decide +kernel
theorem dX8_stepOf_57 : decode cX8_stepOf 57 = .ok (.goto 4, 3) := by decide +kernel
theorem dX8_stepOf_60 : decode cX8_stepOf 60 = .ok (.iconst (-1), 1) := by decide +kernel
theorem dX8_stepOf_61 : decode cX8_stepOf 61 = .ok (.istore 4, 2) := by decide +kernel
theorem dX8_stepOf_63 : decode cX8_stepOf 63 = .ok (.iload 4, 2) := by decide +kernel
theorem dX8_stepOf_65 : decode cX8_stepOf 65 = .ok (.iconst (-1), 1) := by decide +kernel
theorem dX8_stepOf_66 : decode cX8_stepOf 66 = .ok (.if_icmp .eq 42, 3) := by decide +kernel
theorem dX8_stepOf_69 : decode cX8_stepOf 69 = .ok (.iload 4, 2) := by decide +kernel
theorem dX8_stepOf_71 : decode cX8_stepOf 71 = .ok (.bipush 8, 2) := by decide +kernel
theorem dX8_stepOf_73 : decode cX8_stepOf 73 = .ok (.irem, 1) := by decide +kernel
theorem dX8_stepOf_74 : decode cX8_stepOf 74 = .ok (.aload_n 0, 1) := by decide +kernel
theorem dX8_stepOf_75 : decode cX8_stepOf 75 = .ok (.getfield 111, 3) := by decide +kernel
theorem dX8_stepOf_78 : decode cX8_stepOf 78 = .ok (.if_icmp .ge 30, 3) := by decide +kernel
theorem dX8_stepOf_81 : decode cX8_stepOf 81 = .ok (.aload_n 0, 1) := by decide +kernel
theorem dX8_stepOf_82 : decode cX8_stepOf 82 = .ok (.iload 4, 2) := by decide +kernel
theorem dX8_stepOf_84 : decode cX8_stepOf 84 = .ok (.bipush 8, 2) := by decide +kernel
theorem dX8_stepOf_86 : decode cX8_stepOf 86 = .ok (.irem, 1) := by decide +kernel
theorem dX8_stepOf_87 : decode cX8_stepOf 87 = .ok (.aload_n 0, 1) := by decide +kernel
theorem dX8_stepOf_88 : decode cX8_stepOf 88 = .ok (.getfield 40, 3) := by decide +kernel
theorem dX8_stepOf_91 : decode cX8_stepOf 91 = .ok (.iload 4, 2) := by decide +kernel
theorem dX8_stepOf_93 : decode cX8_stepOf 93 = .ok (.bipush 8, 2) := by decide +kernel
theorem dX8_stepOf_95 : decode cX8_stepOf 95 = .ok (.idiv, 1) := by decide +kernel
theorem dX8_stepOf_96 : decode cX8_stepOf 96 = .ok (.iaload, 1) := by decide +kernel
theorem dX8_stepOf_97 : decode cX8_stepOf 97 = .ok (.invokevirtual 173, 3) := by decide +kernel
theorem dX8_stepOf_100 : decode cX8_stepOf 100 = .ok (.ifCond .eq 8, 3) := by decide +kernel
theorem dX8_stepOf_103 : decode cX8_stepOf 103 = .ok (.iload 4, 2) := by decide +kernel
theorem dX8_stepOf_105 : decode cX8_stepOf 105 = .ok (.goto 4, 3) := by decide +kernel
theorem dX8_stepOf_108 : decode cX8_stepOf 108 = .ok (.iconst (-1), 1) := by decide +kernel
theorem dX8_stepOf_109 : decode cX8_stepOf 109 = .ok (.ireturn, 1) := by decide +kernel
theorem dX8_lengthBehind_0 : decode cX8_lengthBehind 0 = .ok (.aload_n 0, 1) := by decide +kernel
theorem dX8_lengthBehind_1 : decode cX8_lengthBehind 1 = .ok (.iload_n 1, 1) := by decide +kernel
theorem dX8_lengthBehind_2 : decode cX8_lengthBehind 2 = .ok (.invokevirtual 153, 3) := by decide +kernel
theorem dX8_lengthBehind_5 : decode cX8_lengthBehind 5 = .ok (.iload_n 2, 1) := by decide +kernel
theorem dX8_lengthBehind_6 : decode cX8_lengthBehind 6 = .ok (.if_icmp .ne 21, 3) := by decide +kernel
theorem dX8_lengthBehind_9 : decode cX8_lengthBehind 9 = .ok (.aload_n 0, 1) := by decide +kernel
theorem dX8_lengthBehind_10 : decode cX8_lengthBehind 10 = .ok (.getfield 159, 3) := by decide +kernel
theorem dX8_lengthBehind_13 : decode cX8_lengthBehind 13 = .ok (.aload_n 0, 1) := by decide +kernel
theorem dX8_lengthBehind_14 : decode cX8_lengthBehind 14 = .ok (.getfield 28, 3) := by decide +kernel
theorem dX8_lengthBehind_17 : decode cX8_lengthBehind 17 = .ok (.iconst 3, 1) := by decide +kernel
theorem dX8_lengthBehind_18 : decode cX8_lengthBehind 18 = .ok (.iload_n 2, 1) := by decide +kernel
theorem dX8_lengthBehind_19 : decode cX8_lengthBehind 19 = .ok (.imul, 1) := by decide +kernel
theorem dX8_lengthBehind_20 : decode cX8_lengthBehind 20 = .ok (.iconst 2, 1) := by decide +kernel
theorem dX8_lengthBehind_21 : decode cX8_lengthBehind 21 = .ok (.iadd, 1) := by decide +kernel
theorem dX8_lengthBehind_22 : decode cX8_lengthBehind 22 = .ok (.iaload, 1) := by decide +kernel
theorem dX8_lengthBehind_23 : decode cX8_lengthBehind 23 = .ok (.isub, 1) := by decide +kernel
theorem dX8_lengthBehind_24 : decode cX8_lengthBehind 24 = .ok (.goto 18, 3) := by decide +kernel
theorem dX8_lengthBehind_27 : decode cX8_lengthBehind 27 = .ok (.aload_n 0, 1) := by decide +kernel
theorem dX8_lengthBehind_28 : decode cX8_lengthBehind 28 = .ok (.getfield 159, 3) := by decide +kernel
theorem dX8_lengthBehind_31 : decode cX8_lengthBehind 31 = .ok (.aload_n 0, 1) := by decide +kernel
theorem dX8_lengthBehind_32 : decode cX8_lengthBehind 32 = .ok (.getfield 28, 3) := by decide +kernel
theorem dX8_lengthBehind_35 : decode cX8_lengthBehind 35 = .ok (.iconst 3, 1) := by decide +kernel
theorem dX8_lengthBehind_36 : decode cX8_lengthBehind 36 = .ok (.iload_n 2, 1) := by decide +kernel
theorem dX8_lengthBehind_37 : decode cX8_lengthBehind 37 = .ok (.imul, 1) := by decide +kernel
theorem dX8_lengthBehind_38 : decode cX8_lengthBehind 38 = .ok (.iconst 2, 1) := by decide +kernel
theorem dX8_lengthBehind_39 : decode cX8_lengthBehind 39 = .ok (.iadd, 1) := by decide +kernel
theorem dX8_lengthBehind_40 : decode cX8_lengthBehind 40 = .ok (.iaload, 1) := by decide +kernel
theorem dX8_lengthBehind_41 : decode cX8_lengthBehind 41 = .ok (.iadd, 1) := by decide +kernel
theorem dX8_lengthBehind_42 : decode cX8_lengthBehind 42 = .ok (.ireturn, 1) := by decide +kernel
theorem dX8_isBorne_0 : decode cX8_isBorne 0 = .ok (.iload_n 1, 1) := by decide +kernel
theorem dX8_isBorne_1 : decode cX8_isBorne 1 = .ok (.iconst (-1), 1) := by decide +kernel
theorem dX8_isBorne_2 : decode cX8_isBorne 2 = .ok (.if_icmp .eq 51, 3) := by decide +kernel
theorem dX8_isBorne_5 : decode cX8_isBorne 5 = .ok (.aload_n 0, 1) := by decide +kernel
theorem dX8_isBorne_6 : decode cX8_isBorne 6 = .ok (.iload_n 1, 1) := by decide +kernel
theorem dX8_isBorne_7 : decode cX8_isBorne 7 = .ok (.bipush 8, 2) := by decide +kernel
theorem dX8_isBorne_9 : decode cX8_isBorne 9 = .ok (.idiv, 1) := by decide +kernel
theorem dX8_isBorne_10 : decode cX8_isBorne 10 = .ok (.iload_n 1, 1) := by decide +kernel
theorem dX8_isBorne_11 : decode cX8_isBorne 11 = .ok (.bipush 8, 2) := by decide +kernel
theorem dX8_isBorne_13 : decode cX8_isBorne 13 = .ok (.irem, 1) := by decide +kernel
theorem dX8_isBorne_14 : decode cX8_isBorne 14 = .ok (.invokevirtual 177, 3) := by decide +kernel
theorem dX8_isBorne_17 : decode cX8_isBorne 17 = .ok (.aload_n 0, 1) := by decide +kernel
theorem dX8_isBorne_18 : decode cX8_isBorne 18 = .ok (.getfield 34, 3) := by decide +kernel
theorem dX8_isBorne_21 : decode cX8_isBorne 21 = .ok (.iconst 2, 1) := by decide +kernel
theorem dX8_isBorne_22 : decode cX8_isBorne 22 = .ok (.iaload, 1) := by decide +kernel
theorem dX8_isBorne_23 : decode cX8_isBorne 23 = .ok (.if_icmp .le 26, 3) := by decide +kernel
theorem dX8_isBorne_26 : decode cX8_isBorne 26 = .ok (.aload_n 0, 1) := by decide +kernel
theorem dX8_isBorne_27 : decode cX8_isBorne 27 = .ok (.getfield 34, 3) := by decide +kernel
theorem dX8_isBorne_30 : decode cX8_isBorne 30 = .ok (.iload_n 1, 1) := by decide +kernel
theorem dX8_isBorne_31 : decode cX8_isBorne 31 = .ok (.bipush 8, 2) := by decide +kernel
theorem dX8_isBorne_33 : decode cX8_isBorne 33 = .ok (.idiv, 1) := by decide +kernel
theorem dX8_isBorne_34 : decode cX8_isBorne 34 = .ok (.iaload, 1) := by decide +kernel
theorem dX8_isBorne_35 : decode cX8_isBorne 35 = .ok (.aload_n 0, 1) := by decide +kernel
theorem dX8_isBorne_36 : decode cX8_isBorne 36 = .ok (.getfield 34, 3) := by decide +kernel
theorem dX8_isBorne_39 : decode cX8_isBorne 39 = .ok (.iconst 1, 1) := by decide +kernel
theorem dX8_isBorne_40 : decode cX8_isBorne 40 = .ok (.iload_n 1, 1) := by decide +kernel
theorem dX8_isBorne_41 : decode cX8_isBorne 41 = .ok (.bipush 8, 2) := by decide +kernel
theorem dX8_isBorne_43 : decode cX8_isBorne 43 = .ok (.idiv, 1) := by decide +kernel
theorem dX8_isBorne_44 : decode cX8_isBorne 44 = .ok (.isub, 1) := by decide +kernel
theorem dX8_isBorne_45 : decode cX8_isBorne 45 = .ok (.iaload, 1) := by decide +kernel
theorem dX8_isBorne_46 : decode cX8_isBorne 46 = .ok (.if_icmp .le 7, 3) := by decide +kernel
theorem dX8_isBorne_49 : decode cX8_isBorne 49 = .ok (.iconst 1, 1) := by decide +kernel
theorem dX8_isBorne_50 : decode cX8_isBorne 50 = .ok (.goto 4, 3) := by decide +kernel
theorem dX8_isBorne_53 : decode cX8_isBorne 53 = .ok (.iconst 0, 1) := by decide +kernel
theorem dX8_isBorne_54 : decode cX8_isBorne 54 = .ok (.ireturn, 1) := by decide +kernel
theorem dX8_does_0 : decode cX8_does 0 = .ok (.iload_n 1, 1) := by decide +kernel
theorem dX8_does_1 : decode cX8_does 1 = .ok (.bipush 8, 2) := by decide +kernel
theorem dX8_does_3 : decode cX8_does 3 = .ok (.idiv, 1) := by decide +kernel
theorem dX8_does_4 : decode cX8_does 4 = .ok (.istore_n 2, 1) := by decide +kernel
theorem dX8_does_5 : decode cX8_does 5 = .ok (.aload_n 0, 1) := by decide +kernel
theorem dX8_does_6 : decode cX8_does 6 = .ok (.iload_n 2, 1) := by decide +kernel
theorem dX8_does_7 : decode cX8_does 7 = .ok (.iload_n 1, 1) := by decide +kernel
theorem dX8_does_8 : decode cX8_does 8 = .ok (.bipush 8, 2) := by decide +kernel
theorem dX8_does_10 : decode cX8_does 10 = .ok (.irem, 1) := by decide +kernel
theorem dX8_does_11 : decode cX8_does 11 = .ok (.invokevirtual 180, 3) := by decide +kernel
theorem dX8_does_14 : decode cX8_does 14 = .ok (.aload_n 0, 1) := by decide +kernel
theorem dX8_does_15 : decode cX8_does 15 = .ok (.getfield 159, 3) := by decide +kernel
theorem dX8_does_18 : decode cX8_does 18 = .ok (.aload_n 0, 1) := by decide +kernel
theorem dX8_does_19 : decode cX8_does 19 = .ok (.getfield 34, 3) := by decide +kernel
theorem dX8_does_22 : decode cX8_does 22 = .ok (.iconst 2, 1) := by decide +kernel
theorem dX8_does_23 : decode cX8_does 23 = .ok (.iaload, 1) := by decide +kernel
theorem dX8_does_24 : decode cX8_does 24 = .ok (.if_icmp .le 32, 3) := by decide +kernel
theorem dX8_does_27 : decode cX8_does 27 = .ok (.aload_n 0, 1) := by decide +kernel
theorem dX8_does_28 : decode cX8_does 28 = .ok (.iconst 1, 1) := by decide +kernel
theorem dX8_does_29 : decode cX8_does 29 = .ok (.iload_n 2, 1) := by decide +kernel
theorem dX8_does_30 : decode cX8_does 30 = .ok (.isub, 1) := by decide +kernel
theorem dX8_does_31 : decode cX8_does 31 = .ok (.aload_n 0, 1) := by decide +kernel
theorem dX8_does_32 : decode cX8_does 32 = .ok (.iconst 1, 1) := by decide +kernel
theorem dX8_does_33 : decode cX8_does 33 = .ok (.iload_n 2, 1) := by decide +kernel
theorem dX8_does_34 : decode cX8_does 34 = .ok (.isub, 1) := by decide +kernel
theorem dX8_does_35 : decode cX8_does 35 = .ok (.invokevirtual 153, 3) := by decide +kernel
theorem dX8_does_38 : decode cX8_does 38 = .ok (.invokevirtual 180, 3) := by decide +kernel
theorem dX8_does_41 : decode cX8_does 41 = .ok (.aload_n 0, 1) := by decide +kernel
theorem dX8_does_42 : decode cX8_does 42 = .ok (.getfield 49, 3) := by decide +kernel
theorem dX8_does_45 : decode cX8_does 45 = .ok (.iconst 1, 1) := by decide +kernel
theorem dX8_does_46 : decode cX8_does 46 = .ok (.iload_n 2, 1) := by decide +kernel
theorem dX8_does_47 : decode cX8_does 47 = .ok (.isub, 1) := by decide +kernel
theorem dX8_does_48 : decode cX8_does 48 = .ok (.dup2, 1) := by decide +kernel
theorem dX8_does_49 : decode cX8_does 49 = .ok (.iaload, 1) := by decide +kernel
theorem dX8_does_50 : decode cX8_does 50 = .ok (.iconst 1, 1) := by decide +kernel
theorem dX8_does_51 : decode cX8_does 51 = .ok (.iadd, 1) := by decide +kernel
theorem dX8_does_52 : decode cX8_does 52 = .ok (.iastore, 1) := by decide +kernel
theorem dX8_does_53 : decode cX8_does 53 = .ok (.goto (-39), 3) := by decide +kernel
theorem dX8_does_56 : decode cX8_does 56 = .ok (.aload_n 0, 1) := by decide +kernel
theorem dX8_does_57 : decode cX8_does 57 = .ok (.getfield 40, 3) := by decide +kernel
theorem dX8_does_60 : decode cX8_does 60 = .ok (.iload_n 2, 1) := by decide +kernel
theorem dX8_does_61 : decode cX8_does 61 = .ok (.iaload, 1) := by decide +kernel
theorem dX8_does_62 : decode cX8_does 62 = .ok (.istore_n 3, 1) := by decide +kernel
theorem dX8_does_63 : decode cX8_does 63 = .ok (.aload_n 0, 1) := by decide +kernel
theorem dX8_does_64 : decode cX8_does 64 = .ok (.getfield 46, 3) := by decide +kernel
theorem dX8_does_67 : decode cX8_does 67 = .ok (.iload_n 2, 1) := by decide +kernel
theorem dX8_does_68 : decode cX8_does 68 = .ok (.dup2, 1) := by decide +kernel
theorem dX8_does_69 : decode cX8_does 69 = .ok (.iaload, 1) := by decide +kernel
theorem dX8_does_70 : decode cX8_does 70 = .ok (.aload_n 0, 1) := by decide +kernel
theorem dX8_does_71 : decode cX8_does 71 = .ok (.getfield 162, 3) := by decide +kernel
theorem dX8_does_74 : decode cX8_does 74 = .ok (.iload_n 3, 1) := by decide +kernel
theorem dX8_does_75 : decode cX8_does 75 = .ok (.ishr, 1) := by decide +kernel
theorem dX8_does_76 : decode cX8_does 76 = .ok (.iconst 1, 1) := by decide +kernel
theorem dX8_does_77 : decode cX8_does 77 = .ok (.iand, 1) := by decide +kernel
theorem dX8_does_78 : decode cX8_does 78 = .ok (.ifCond .ne 12, 3) := by decide +kernel
theorem dX8_does_81 : decode cX8_does 81 = .ok (.aload_n 0, 1) := by decide +kernel
theorem dX8_does_82 : decode cX8_does 82 = .ok (.getfield 37, 3) := by decide +kernel
theorem dX8_does_85 : decode cX8_does 85 = .ok (.iload_n 3, 1) := by decide +kernel
theorem dX8_does_86 : decode cX8_does 86 = .ok (.iaload, 1) := by decide +kernel
theorem dX8_does_87 : decode cX8_does 87 = .ok (.goto 4, 3) := by decide +kernel
theorem dX8_does_90 : decode cX8_does 90 = .ok (.iconst 0, 1) := by decide +kernel
theorem dX8_does_91 : decode cX8_does 91 = .ok (.iadd, 1) := by decide +kernel
theorem dX8_does_92 : decode cX8_does 92 = .ok (.iastore, 1) := by decide +kernel
theorem dX8_does_93 : decode cX8_does 93 = .ok (.aload_n 0, 1) := by decide +kernel
theorem dX8_does_94 : decode cX8_does 94 = .ok (.dup, 1) := by decide +kernel
theorem dX8_does_95 : decode cX8_does 95 = .ok (.getfield 162, 3) := by decide +kernel
theorem dX8_does_98 : decode cX8_does 98 = .ok (.iconst 1, 1) := by decide +kernel
theorem dX8_does_99 : decode cX8_does 99 = .ok (.iload_n 3, 1) := by decide +kernel
theorem dX8_does_100 : decode cX8_does 100 = .ok (.ishl, 1) := by decide +kernel
theorem dX8_does_101 : decode cX8_does 101 = .ok (.ior, 1) := by decide +kernel
theorem dX8_does_102 : decode cX8_does 102 = .ok (.putfield 162, 3) := by decide +kernel
theorem dX8_does_105 : decode cX8_does 105 = .ok (.return_, 1) := by decide +kernel
theorem dX8_runs_0 : decode cX8_runs 0 = .ok (.aload_n 0, 1) := by decide +kernel
theorem dX8_runs_1 : decode cX8_runs 1 = .ok (.iload_n 1, 1) := by decide +kernel
theorem dX8_runs_2 : decode cX8_runs 2 = .ok (.invokevirtual 184, 3) := by decide +kernel
theorem dX8_runs_5 : decode cX8_runs 5 = .ok (.iconst 0, 1) := by decide +kernel
theorem dX8_runs_6 : decode cX8_runs 6 = .ok (.istore_n 3, 1) := by decide +kernel
theorem dX8_runs_7 : decode cX8_runs 7 = .ok (.iload_n 3, 1) := by decide +kernel
theorem dX8_runs_8 : decode cX8_runs 8 = .ok (.iload_n 2, 1) := by decide +kernel
theorem dX8_runs_9 : decode cX8_runs 9 = .ok (.if_icmp .ge 44, 3) := by decide +kernel
theorem dX8_runs_12 : decode cX8_runs 12 = .ok (.iload_n 3, 1) := by decide +kernel
theorem dX8_runs_13 : decode cX8_runs 13 = .ok (.aload_n 0, 1) := by decide +kernel
theorem dX8_runs_14 : decode cX8_runs 14 = .ok (.getfield 25, 3) := by decide +kernel
theorem dX8_runs_17 : decode cX8_runs 17 = .ok (.iconst 1, 1) := by decide +kernel
theorem dX8_runs_18 : decode cX8_runs 18 = .ok (.iload_n 1, 1) := by decide +kernel
theorem dX8_runs_19 : decode cX8_runs 19 = .ok (.iadd, 1) := by decide +kernel
theorem dX8_runs_20 : decode cX8_runs 20 = .ok (.iaload, 1) := by decide +kernel
theorem dX8_runs_21 : decode cX8_runs 21 = .ok (.if_icmp .ge 32, 3) := by decide +kernel
theorem dX8_runs_24 : decode cX8_runs 24 = .ok (.aload_n 0, 1) := by decide +kernel
theorem dX8_runs_25 : decode cX8_runs 25 = .ok (.aload_n 0, 1) := by decide +kernel
theorem dX8_runs_26 : decode cX8_runs 26 = .ok (.iload_n 1, 1) := by decide +kernel
theorem dX8_runs_27 : decode cX8_runs 27 = .ok (.iload_n 3, 1) := by decide +kernel
theorem dX8_runs_28 : decode cX8_runs 28 = .ok (.invokevirtual 188, 3) := by decide +kernel
theorem dX8_runs_31 : decode cX8_runs 31 = .ok (.invokevirtual 191, 3) := by decide +kernel
theorem dX8_runs_34 : decode cX8_runs 34 = .ok (.ifCond .eq 19, 3) := by decide +kernel
theorem dX8_runs_37 : decode cX8_runs 37 = .ok (.aload_n 0, 1) := by decide +kernel
theorem dX8_runs_38 : decode cX8_runs 38 = .ok (.aload_n 0, 1) := by decide +kernel
theorem dX8_runs_39 : decode cX8_runs 39 = .ok (.iload_n 1, 1) := by decide +kernel
theorem dX8_runs_40 : decode cX8_runs 40 = .ok (.iload_n 3, 1) := by decide +kernel
theorem dX8_runs_41 : decode cX8_runs 41 = .ok (.invokevirtual 188, 3) := by decide +kernel
theorem dX8_runs_44 : decode cX8_runs 44 = .ok (.invokevirtual 194, 3) := by decide +kernel
theorem dX8_runs_47 : decode cX8_runs 47 = .ok (.iinc 3 1, 3) := by decide +kernel
theorem dX8_runs_50 : decode cX8_runs 50 = .ok (.goto (-43), 3) := by decide +kernel
theorem dX8_runs_53 : decode cX8_runs 53 = .ok (.iload_n 3, 1) := by decide +kernel
theorem dX8_runs_54 : decode cX8_runs 54 = .ok (.ireturn, 1) := by decide +kernel
theorem dX8_done_0 : decode cX8_done 0 = .ok (.aload_n 0, 1) := by decide +kernel
theorem dX8_done_1 : decode cX8_done 1 = .ok (.iload_n 1, 1) := by decide +kernel
theorem dX8_done_2 : decode cX8_done 2 = .ok (.bipush 40, 2) := by decide +kernel
theorem dX8_done_4 : decode cX8_done 4 = .ok (.invokevirtual 197, 3) := by decide +kernel
theorem dX8_done_7 : decode cX8_done 7 = .ok (.ireturn, 1) := by decide +kernel
theorem dX8_judgedOf_0 : decode cX8_judgedOf 0 = .ok (.aload_n 0, 1) := by decide +kernel
theorem dX8_judgedOf_1 : decode cX8_judgedOf 1 = .ok (.iload_n 1, 1) := by decide +kernel
theorem dX8_judgedOf_2 : decode cX8_judgedOf 2 = .ok (.invokevirtual 200, 3) := by decide +kernel
theorem dX8_judgedOf_5 : decode cX8_judgedOf 5 = .ok (.istore_n 2, 1) := by decide +kernel
theorem dX8_judgedOf_6 : decode cX8_judgedOf 6 = .ok (.iload_n 2, 1) := by decide +kernel
theorem dX8_judgedOf_7 : decode cX8_judgedOf 7 = .ok (.aload_n 0, 1) := by decide +kernel
theorem dX8_judgedOf_8 : decode cX8_judgedOf 8 = .ok (.getfield 25, 3) := by decide +kernel
theorem dX8_judgedOf_11 : decode cX8_judgedOf 11 = .ok (.iconst 1, 1) := by decide +kernel
theorem dX8_judgedOf_12 : decode cX8_judgedOf 12 = .ok (.iload_n 1, 1) := by decide +kernel
theorem dX8_judgedOf_13 : decode cX8_judgedOf 13 = .ok (.iadd, 1) := by decide +kernel
theorem dX8_judgedOf_14 : decode cX8_judgedOf 14 = .ok (.iaload, 1) := by decide +kernel
theorem dX8_judgedOf_15 : decode cX8_judgedOf 15 = .ok (.if_icmp .ge 7, 3) := by decide +kernel
theorem dX8_judgedOf_18 : decode cX8_judgedOf 18 = .ok (.iload_n 2, 1) := by decide +kernel
theorem dX8_judgedOf_19 : decode cX8_judgedOf 19 = .ok (.goto 4, 3) := by decide +kernel
theorem dX8_judgedOf_22 : decode cX8_judgedOf 22 = .ok (.iconst (-1), 1) := by decide +kernel
theorem dX8_judgedOf_23 : decode cX8_judgedOf 23 = .ok (.ireturn, 1) := by decide +kernel
theorem dX8_judged_0 : decode cX8_judged 0 = .ok (.aload_n 0, 1) := by decide +kernel
theorem dX8_judged_1 : decode cX8_judged 1 = .ok (.invokevirtual 129, 3) := by decide +kernel
theorem dX8_judged_4 : decode cX8_judged 4 = .ok (.pop, 1) := by decide +kernel
theorem dX8_judged_5 : decode cX8_judged 5 = .ok (.iload_n 1, 1) := by decide +kernel
theorem dX8_judged_6 : decode cX8_judged 6 = .ok (.invokestatic 135, 3) := by decide +kernel
theorem dX8_judged_9 : decode cX8_judged 9 = .ok (.ifCond .eq 11, 3) := by decide +kernel
theorem dX8_judged_12 : decode cX8_judged 12 = .ok (.aload_n 0, 1) := by decide +kernel
theorem dX8_judged_13 : decode cX8_judged 13 = .ok (.iload_n 1, 1) := by decide +kernel
theorem dX8_judged_14 : decode cX8_judged 14 = .ok (.invokevirtual 203, 3) := by decide +kernel
theorem dX8_judged_17 : decode cX8_judged 17 = .ok (.goto 5, 3) := by decide +kernel
theorem dX8_judged_20 : decode cX8_judged 20 = .ok (.bipush (-2), 2) := by decide +kernel
theorem dX8_judged_22 : decode cX8_judged 22 = .ok (.ireturn, 1) := by decide +kernel
theorem dX8_isSo_0 : decode cX8_isSo 0 = .ok (.aload_n 0, 1) := by decide +kernel
theorem dX8_isSo_1 : decode cX8_isSo 1 = .ok (.invokevirtual 129, 3) := by decide +kernel
theorem dX8_isSo_4 : decode cX8_isSo 4 = .ok (.pop, 1) := by decide +kernel
theorem dX8_isSo_5 : decode cX8_isSo 5 = .ok (.iload_n 1, 1) := by decide +kernel
theorem dX8_isSo_6 : decode cX8_isSo 6 = .ok (.invokestatic 135, 3) := by decide +kernel
theorem dX8_isSo_9 : decode cX8_isSo 9 = .ok (.ifCond .eq 22, 3) := by decide +kernel
theorem dX8_isSo_12 : decode cX8_isSo 12 = .ok (.iload_n 2, 1) := by decide +kernel
theorem dX8_isSo_13 : decode cX8_isSo 13 = .ok (.i2l, 1) := by decide +kernel
theorem dX8_isSo_14 : decode cX8_isSo 14 = .ok (.lconst 0, 1) := by decide +kernel
theorem dX8_isSo_15 : decode cX8_isSo 15 = .ok (.aload_n 0, 1) := by decide +kernel
theorem dX8_isSo_16 : decode cX8_isSo 16 = .ok (.iload_n 1, 1) := by decide +kernel
theorem dX8_isSo_17 : decode cX8_isSo 17 = .ok (.invokevirtual 200, 3) := by decide +kernel
theorem dX8_isSo_20 : decode cX8_isSo 20 = .ok (.i2l, 1) := by decide +kernel
theorem dX8_isSo_21 : decode cX8_isSo 21 = .ok (.invokestatic 77, 3) := by decide +kernel
theorem dX8_isSo_24 : decode cX8_isSo 24 = .ok (.ifCond .eq 7, 3) := by decide +kernel
theorem dX8_isSo_27 : decode cX8_isSo 27 = .ok (.iconst 1, 1) := by decide +kernel
theorem dX8_isSo_28 : decode cX8_isSo 28 = .ok (.goto 4, 3) := by decide +kernel
theorem dX8_isSo_31 : decode cX8_isSo 31 = .ok (.iconst 0, 1) := by decide +kernel
theorem dX8_isSo_32 : decode cX8_isSo 32 = .ok (.ireturn, 1) := by decide +kernel
theorem dX8_stateNow_0 : decode cX8_stateNow 0 = .ok (.iload_n 1, 1) := by decide +kernel
theorem dX8_stateNow_1 : decode cX8_stateNow 1 = .ok (.iconst 2, 1) := by decide +kernel
theorem dX8_stateNow_2 : decode cX8_stateNow 2 = .ok (.if_icmp .ge 12, 3) := by decide +kernel
theorem dX8_stateNow_5 : decode cX8_stateNow 5 = .ok (.aload_n 0, 1) := by decide +kernel
theorem dX8_stateNow_6 : decode cX8_stateNow 6 = .ok (.getfield 40, 3) := by decide +kernel
theorem dX8_stateNow_9 : decode cX8_stateNow 9 = .ok (.iload_n 1, 1) := by decide +kernel
theorem dX8_stateNow_10 : decode cX8_stateNow 10 = .ok (.iaload, 1) := by decide +kernel
theorem dX8_stateNow_11 : decode cX8_stateNow 11 = .ok (.goto 53, 3) := by decide +kernel
theorem dX8_stateNow_14 : decode cX8_stateNow 14 = .ok (.iload_n 1, 1) := by decide +kernel
theorem dX8_stateNow_15 : decode cX8_stateNow 15 = .ok (.iconst 2, 1) := by decide +kernel
theorem dX8_stateNow_16 : decode cX8_stateNow 16 = .ok (.if_icmp .ne 10, 3) := by decide +kernel
theorem dX8_stateNow_19 : decode cX8_stateNow 19 = .ok (.aload_n 0, 1) := by decide +kernel
theorem dX8_stateNow_20 : decode cX8_stateNow 20 = .ok (.getfield 150, 3) := by decide +kernel
theorem dX8_stateNow_23 : decode cX8_stateNow 23 = .ok (.goto 41, 3) := by decide +kernel
theorem dX8_stateNow_26 : decode cX8_stateNow 26 = .ok (.iload_n 1, 1) := by decide +kernel
theorem dX8_stateNow_27 : decode cX8_stateNow 27 = .ok (.iconst 3, 1) := by decide +kernel
theorem dX8_stateNow_28 : decode cX8_stateNow 28 = .ok (.if_icmp .ne 10, 3) := by decide +kernel
theorem dX8_stateNow_31 : decode cX8_stateNow 31 = .ok (.aload_n 0, 1) := by decide +kernel
theorem dX8_stateNow_32 : decode cX8_stateNow 32 = .ok (.getfield 159, 3) := by decide +kernel
theorem dX8_stateNow_35 : decode cX8_stateNow 35 = .ok (.goto 29, 3) := by decide +kernel
theorem dX8_stateNow_38 : decode cX8_stateNow 38 = .ok (.iload_n 1, 1) := by decide +kernel
theorem dX8_stateNow_39 : decode cX8_stateNow 39 = .ok (.bipush 6, 2) := by decide +kernel
theorem dX8_stateNow_41 : decode cX8_stateNow 41 = .ok (.if_icmp .ge 14, 3) := by decide +kernel
theorem dX8_stateNow_44 : decode cX8_stateNow 44 = .ok (.aload_n 0, 1) := by decide +kernel
theorem dX8_stateNow_45 : decode cX8_stateNow 45 = .ok (.getfield 46, 3) := by decide +kernel
theorem dX8_stateNow_48 : decode cX8_stateNow 48 = .ok (.iload_n 1, 1) := by decide +kernel
theorem dX8_stateNow_49 : decode cX8_stateNow 49 = .ok (.iconst 4, 1) := by decide +kernel
theorem dX8_stateNow_50 : decode cX8_stateNow 50 = .ok (.isub, 1) := by decide +kernel
theorem dX8_stateNow_51 : decode cX8_stateNow 51 = .ok (.iaload, 1) := by decide +kernel
theorem dX8_stateNow_52 : decode cX8_stateNow 52 = .ok (.goto 12, 3) := by decide +kernel
theorem dX8_stateNow_55 : decode cX8_stateNow 55 = .ok (.aload_n 0, 1) := by decide +kernel
theorem dX8_stateNow_56 : decode cX8_stateNow 56 = .ok (.getfield 49, 3) := by decide +kernel
theorem dX8_stateNow_59 : decode cX8_stateNow 59 = .ok (.iload_n 1, 1) := by decide +kernel
theorem dX8_stateNow_60 : decode cX8_stateNow 60 = .ok (.bipush 6, 2) := by decide +kernel
theorem dX8_stateNow_62 : decode cX8_stateNow 62 = .ok (.isub, 1) := by decide +kernel
theorem dX8_stateNow_63 : decode cX8_stateNow 63 = .ok (.iaload, 1) := by decide +kernel
theorem dX8_stateNow_64 : decode cX8_stateNow 64 = .ok (.ireturn, 1) := by decide +kernel
theorem dX8_state_0 : decode cX8_state 0 = .ok (.aload_n 0, 1) := by decide +kernel
theorem dX8_state_1 : decode cX8_state 1 = .ok (.iload_n 1, 1) := by decide +kernel
theorem dX8_state_2 : decode cX8_state 2 = .ok (.iload_n 2, 1) := by decide +kernel
theorem dX8_state_3 : decode cX8_state 3 = .ok (.invokevirtual 206, 3) := by decide +kernel
theorem dX8_state_6 : decode cX8_state 6 = .ok (.ifCond .eq 15, 3) := by decide +kernel
theorem dX8_state_9 : decode cX8_state 9 = .ok (.iload_n 3, 1) := by decide +kernel
theorem dX8_state_10 : decode cX8_state 10 = .ok (.i2l, 1) := by decide +kernel
theorem dX8_state_11 : decode cX8_state 11 = .ok (.lconst 0, 1) := by decide +kernel
theorem dX8_state_12 : decode cX8_state 12 = .ok (.ldc2_w 118, 3) := by decide +kernel
theorem dX8_state_15 : decode cX8_state 15 = .ok (.invokestatic 77, 3) := by decide +kernel
theorem dX8_state_18 : decode cX8_state 18 = .ok (.ifCond .ne 6, 3) := by decide +kernel
theorem dX8_state_21 : decode cX8_state 21 = .ok (.bipush (-2), 2) := by decide +kernel
theorem dX8_state_23 : decode cX8_state 23 = .ok (.ireturn, 1) := by decide +kernel
theorem dX8_state_24 : decode cX8_state 24 = .ok (.aload_n 0, 1) := by decide +kernel
theorem dX8_state_25 : decode cX8_state 25 = .ok (.iload_n 1, 1) := by decide +kernel
theorem dX8_state_26 : decode cX8_state 26 = .ok (.iload_n 2, 1) := by decide +kernel
theorem dX8_state_27 : decode cX8_state 27 = .ok (.invokevirtual 197, 3) := by decide +kernel
theorem dX8_state_30 : decode cX8_state 30 = .ok (.pop, 1) := by decide +kernel
theorem dX8_state_31 : decode cX8_state 31 = .ok (.aload_n 0, 1) := by decide +kernel
theorem dX8_state_32 : decode cX8_state 32 = .ok (.iload_n 3, 1) := by decide +kernel
theorem dX8_state_33 : decode cX8_state 33 = .ok (.invokevirtual 209, 3) := by decide +kernel
theorem dX8_state_36 : decode cX8_state 36 = .ok (.ireturn, 1) := by decide +kernel
theorem dX8_rope_0 : decode cX8_rope 0 = .ok (.aload_n 0, 1) := by decide +kernel
theorem dX8_rope_1 : decode cX8_rope 1 = .ok (.iload_n 1, 1) := by decide +kernel
theorem dX8_rope_2 : decode cX8_rope 2 = .ok (.iload_n 2, 1) := by decide +kernel
theorem dX8_rope_3 : decode cX8_rope 3 = .ok (.invokevirtual 206, 3) := by decide +kernel
theorem dX8_rope_6 : decode cX8_rope 6 = .ok (.ifCond .eq 7, 3) := by decide +kernel
theorem dX8_rope_9 : decode cX8_rope 9 = .ok (.iload_n 3, 1) := by decide +kernel
theorem dX8_rope_10 : decode cX8_rope 10 = .ok (.ifCond .ge 6, 3) := by decide +kernel
theorem dX8_rope_13 : decode cX8_rope 13 = .ok (.bipush (-2), 2) := by decide +kernel
theorem dX8_rope_15 : decode cX8_rope 15 = .ok (.ireturn, 1) := by decide +kernel
theorem dX8_rope_16 : decode cX8_rope 16 = .ok (.aload_n 0, 1) := by decide +kernel
theorem dX8_rope_17 : decode cX8_rope 17 = .ok (.iload_n 1, 1) := by decide +kernel
theorem dX8_rope_18 : decode cX8_rope 18 = .ok (.iload_n 2, 1) := by decide +kernel
theorem dX8_rope_19 : decode cX8_rope 19 = .ok (.invokevirtual 197, 3) := by decide +kernel
theorem dX8_rope_22 : decode cX8_rope 22 = .ok (.pop, 1) := by decide +kernel
theorem dX8_rope_23 : decode cX8_rope 23 = .ok (.iload_n 3, 1) := by decide +kernel
theorem dX8_rope_24 : decode cX8_rope 24 = .ok (.aload_n 0, 1) := by decide +kernel
theorem dX8_rope_25 : decode cX8_rope 25 = .ok (.getfield 150, 3) := by decide +kernel
theorem dX8_rope_28 : decode cX8_rope 28 = .ok (.if_icmp .ge 12, 3) := by decide +kernel
theorem dX8_rope_31 : decode cX8_rope 31 = .ok (.aload_n 0, 1) := by decide +kernel
theorem dX8_rope_32 : decode cX8_rope 32 = .ok (.getfield 43, 3) := by decide +kernel
theorem dX8_rope_35 : decode cX8_rope 35 = .ok (.iload_n 3, 1) := by decide +kernel
theorem dX8_rope_36 : decode cX8_rope 36 = .ok (.iaload, 1) := by decide +kernel
theorem dX8_rope_37 : decode cX8_rope 37 = .ok (.goto 4, 3) := by decide +kernel
theorem dX8_rope_40 : decode cX8_rope 40 = .ok (.iconst (-1), 1) := by decide +kernel
theorem dX8_rope_41 : decode cX8_rope 41 = .ok (.ireturn, 1) := by decide +kernel
theorem dX8_needsOf_0 : decode cX8_needsOf 0 = .ok (.aload_n 0, 1) := by decide +kernel
theorem dX8_needsOf_1 : decode cX8_needsOf 1 = .ok (.iload_n 1, 1) := by decide +kernel
theorem dX8_needsOf_2 : decode cX8_needsOf 2 = .ok (.invokevirtual 184, 3) := by decide +kernel
theorem dX8_needsOf_5 : decode cX8_needsOf 5 = .ok (.iconst 0, 1) := by decide +kernel
theorem dX8_needsOf_6 : decode cX8_needsOf 6 = .ok (.istore_n 2, 1) := by decide +kernel
theorem dX8_needsOf_7 : decode cX8_needsOf 7 = .ok (.iconst 0, 1) := by decide +kernel
theorem dX8_needsOf_8 : decode cX8_needsOf 8 = .ok (.istore_n 3, 1) := by decide +kernel
theorem dX8_needsOf_9 : decode cX8_needsOf 9 = .ok (.iload_n 3, 1) := by decide +kernel
theorem dX8_needsOf_10 : decode cX8_needsOf 10 = .ok (.aload_n 0, 1) := by decide +kernel
theorem dX8_needsOf_11 : decode cX8_needsOf 11 = .ok (.getfield 25, 3) := by decide +kernel
theorem dX8_needsOf_14 : decode cX8_needsOf 14 = .ok (.iconst 1, 1) := by decide +kernel
theorem dX8_needsOf_15 : decode cX8_needsOf 15 = .ok (.iload_n 1, 1) := by decide +kernel
theorem dX8_needsOf_16 : decode cX8_needsOf 16 = .ok (.iadd, 1) := by decide +kernel
theorem dX8_needsOf_17 : decode cX8_needsOf 17 = .ok (.iaload, 1) := by decide +kernel
theorem dX8_needsOf_18 : decode cX8_needsOf 18 = .ok (.if_icmp .ge 58, 3) := by decide +kernel
theorem dX8_needsOf_21 : decode cX8_needsOf 21 = .ok (.aload_n 0, 1) := by decide +kernel
theorem dX8_needsOf_22 : decode cX8_needsOf 22 = .ok (.iload_n 1, 1) := by decide +kernel
theorem dX8_needsOf_23 : decode cX8_needsOf 23 = .ok (.iload_n 3, 1) := by decide +kernel
theorem dX8_needsOf_24 : decode cX8_needsOf 24 = .ok (.invokevirtual 188, 3) := by decide +kernel
theorem dX8_needsOf_27 : decode cX8_needsOf 27 = .ok (.iconst (-1), 1) := by decide +kernel
theorem dX8_needsOf_28 : decode cX8_needsOf 28 = .ok (.if_icmp .eq 48, 3) := by decide +kernel
theorem dX8_needsOf_31 : decode cX8_needsOf 31 = .ok (.aload_n 0, 1) := by decide +kernel
theorem dX8_needsOf_32 : decode cX8_needsOf 32 = .ok (.iload_n 1, 1) := by decide +kernel
theorem dX8_needsOf_33 : decode cX8_needsOf 33 = .ok (.iload_n 3, 1) := by decide +kernel
theorem dX8_needsOf_34 : decode cX8_needsOf 34 = .ok (.invokevirtual 188, 3) := by decide +kernel
theorem dX8_needsOf_37 : decode cX8_needsOf 37 = .ok (.istore 4, 2) := by decide +kernel
theorem dX8_needsOf_39 : decode cX8_needsOf 39 = .ok (.aload_n 0, 1) := by decide +kernel
theorem dX8_needsOf_40 : decode cX8_needsOf 40 = .ok (.iload 4, 2) := by decide +kernel
theorem dX8_needsOf_42 : decode cX8_needsOf 42 = .ok (.bipush 8, 2) := by decide +kernel
theorem dX8_needsOf_44 : decode cX8_needsOf 44 = .ok (.idiv, 1) := by decide +kernel
theorem dX8_needsOf_45 : decode cX8_needsOf 45 = .ok (.iload 4, 2) := by decide +kernel
theorem dX8_needsOf_47 : decode cX8_needsOf 47 = .ok (.bipush 8, 2) := by decide +kernel
theorem dX8_needsOf_49 : decode cX8_needsOf 49 = .ok (.irem, 1) := by decide +kernel
theorem dX8_needsOf_50 : decode cX8_needsOf 50 = .ok (.invokevirtual 180, 3) := by decide +kernel
theorem dX8_needsOf_53 : decode cX8_needsOf 53 = .ok (.aload_n 0, 1) := by decide +kernel
theorem dX8_needsOf_54 : decode cX8_needsOf 54 = .ok (.getfield 159, 3) := by decide +kernel
theorem dX8_needsOf_57 : decode cX8_needsOf 57 = .ok (.iload_n 2, 1) := by decide +kernel
theorem dX8_needsOf_58 : decode cX8_needsOf 58 = .ok (.if_icmp .le 10, 3) := by decide +kernel
theorem dX8_needsOf_61 : decode cX8_needsOf 61 = .ok (.aload_n 0, 1) := by decide +kernel
theorem dX8_needsOf_62 : decode cX8_needsOf 62 = .ok (.getfield 159, 3) := by decide +kernel
theorem dX8_needsOf_65 : decode cX8_needsOf 65 = .ok (.goto 4, 3) := by decide +kernel
theorem dX8_needsOf_68 : decode cX8_needsOf 68 = .ok (.iload_n 2, 1) := by decide +kernel
theorem dX8_needsOf_69 : decode cX8_needsOf 69 = .ok (.istore_n 2, 1) := by decide +kernel
theorem dX8_needsOf_70 : decode cX8_needsOf 70 = .ok (.iinc 3 1, 3) := by decide +kernel
theorem dX8_needsOf_73 : decode cX8_needsOf 73 = .ok (.goto (-64), 3) := by decide +kernel
theorem dX8_needsOf_76 : decode cX8_needsOf 76 = .ok (.iload_n 2, 1) := by decide +kernel
theorem dX8_needsOf_77 : decode cX8_needsOf 77 = .ok (.ireturn, 1) := by decide +kernel
theorem dX8_needs_0 : decode cX8_needs 0 = .ok (.aload_n 0, 1) := by decide +kernel
theorem dX8_needs_1 : decode cX8_needs 1 = .ok (.invokevirtual 129, 3) := by decide +kernel
theorem dX8_needs_4 : decode cX8_needs 4 = .ok (.pop, 1) := by decide +kernel
theorem dX8_needs_5 : decode cX8_needs 5 = .ok (.iload_n 1, 1) := by decide +kernel
theorem dX8_needs_6 : decode cX8_needs 6 = .ok (.invokestatic 135, 3) := by decide +kernel
theorem dX8_needs_9 : decode cX8_needs 9 = .ok (.ifCond .eq 11, 3) := by decide +kernel
theorem dX8_needs_12 : decode cX8_needs 12 = .ok (.aload_n 0, 1) := by decide +kernel
theorem dX8_needs_13 : decode cX8_needs 13 = .ok (.iload_n 1, 1) := by decide +kernel
theorem dX8_needs_14 : decode cX8_needs 14 = .ok (.invokevirtual 212, 3) := by decide +kernel
theorem dX8_needs_17 : decode cX8_needs 17 = .ok (.goto 5, 3) := by decide +kernel
theorem dX8_needs_20 : decode cX8_needs 20 = .ok (.bipush (-2), 2) := by decide +kernel
theorem dX8_needs_22 : decode cX8_needs 22 = .ok (.ireturn, 1) := by decide +kernel
theorem dX8_wayNow_0 : decode cX8_wayNow 0 = .ok (.lconst 0, 1) := by decide +kernel
theorem dX8_wayNow_1 : decode cX8_wayNow 1 = .ok (.lstore_n 1, 1) := by decide +kernel
theorem dX8_wayNow_2 : decode cX8_wayNow 2 = .ok (.aload_n 0, 1) := by decide +kernel
theorem dX8_wayNow_3 : decode cX8_wayNow 3 = .ok (.getfield 150, 3) := by decide +kernel
theorem dX8_wayNow_6 : decode cX8_wayNow 6 = .ok (.iconst 1, 1) := by decide +kernel
theorem dX8_wayNow_7 : decode cX8_wayNow 7 = .ok (.isub, 1) := by decide +kernel
theorem dX8_wayNow_8 : decode cX8_wayNow 8 = .ok (.istore_n 3, 1) := by decide +kernel
theorem dX8_wayNow_9 : decode cX8_wayNow 9 = .ok (.iload_n 3, 1) := by decide +kernel
theorem dX8_wayNow_10 : decode cX8_wayNow 10 = .ok (.ifCond .lt 21, 3) := by decide +kernel
theorem dX8_wayNow_13 : decode cX8_wayNow 13 = .ok (.lload_n 1, 1) := by decide +kernel
theorem dX8_wayNow_14 : decode cX8_wayNow 14 = .ok (.iconst 3, 1) := by decide +kernel
theorem dX8_wayNow_15 : decode cX8_wayNow 15 = .ok (.lshl, 1) := by decide +kernel
theorem dX8_wayNow_16 : decode cX8_wayNow 16 = .ok (.aload_n 0, 1) := by decide +kernel
theorem dX8_wayNow_17 : decode cX8_wayNow 17 = .ok (.getfield 43, 3) := by decide +kernel
theorem dX8_wayNow_20 : decode cX8_wayNow 20 = .ok (.iload_n 3, 1) := by decide +kernel
theorem dX8_wayNow_21 : decode cX8_wayNow 21 = .ok (.iaload, 1) := by decide +kernel
theorem dX8_wayNow_22 : decode cX8_wayNow 22 = .ok (.i2l, 1) := by decide +kernel
theorem dX8_wayNow_23 : decode cX8_wayNow 23 = .ok (.lor, 1) := by decide +kernel
theorem dX8_wayNow_24 : decode cX8_wayNow 24 = .ok (.lstore_n 1, 1) := by decide +kernel
theorem dX8_wayNow_25 : decode cX8_wayNow 25 = .ok (.iinc 3 (-1), 3) := by decide +kernel
theorem dX8_wayNow_28 : decode cX8_wayNow 28 = .ok (.goto (-19), 3) := by decide +kernel
theorem dX8_wayNow_31 : decode cX8_wayNow 31 = .ok (.lload_n 1, 1) := by decide +kernel
theorem dX8_wayNow_32 : decode cX8_wayNow 32 = .ok (.bipush 8, 2) := by decide +kernel
theorem dX8_wayNow_34 : decode cX8_wayNow 34 = .ok (.lshl, 1) := by decide +kernel
theorem dX8_wayNow_35 : decode cX8_wayNow 35 = .ok (.aload_n 0, 1) := by decide +kernel
theorem dX8_wayNow_36 : decode cX8_wayNow 36 = .ok (.getfield 150, 3) := by decide +kernel
theorem dX8_wayNow_39 : decode cX8_wayNow 39 = .ok (.iconst 3, 1) := by decide +kernel
theorem dX8_wayNow_40 : decode cX8_wayNow 40 = .ok (.ishl, 1) := by decide +kernel
theorem dX8_wayNow_41 : decode cX8_wayNow 41 = .ok (.i2l, 1) := by decide +kernel
theorem dX8_wayNow_42 : decode cX8_wayNow 42 = .ok (.lor, 1) := by decide +kernel
theorem dX8_wayNow_43 : decode cX8_wayNow 43 = .ok (.aload_n 0, 1) := by decide +kernel
theorem dX8_wayNow_44 : decode cX8_wayNow 44 = .ok (.getfield 40, 3) := by decide +kernel
theorem dX8_wayNow_47 : decode cX8_wayNow 47 = .ok (.iconst 0, 1) := by decide +kernel
theorem dX8_wayNow_48 : decode cX8_wayNow 48 = .ok (.iaload, 1) := by decide +kernel
theorem dX8_wayNow_49 : decode cX8_wayNow 49 = .ok (.i2l, 1) := by decide +kernel
theorem dX8_wayNow_50 : decode cX8_wayNow 50 = .ok (.lor, 1) := by decide +kernel
theorem dX8_wayNow_51 : decode cX8_wayNow 51 = .ok (.lreturn, 1) := by decide +kernel
theorem dX8_comesTo_0 : decode cX8_comesTo 0 = .ok (.aload_n 0, 1) := by decide +kernel
theorem dX8_comesTo_1 : decode cX8_comesTo 1 = .ok (.getfield 40, 3) := by decide +kernel
theorem dX8_comesTo_4 : decode cX8_comesTo 4 = .ok (.iconst 0, 1) := by decide +kernel
theorem dX8_comesTo_5 : decode cX8_comesTo 5 = .ok (.lload_n 1, 1) := by decide +kernel
theorem dX8_comesTo_6 : decode cX8_comesTo 6 = .ok (.ldc2_w 118, 3) := by decide +kernel
theorem dX8_comesTo_9 : decode cX8_comesTo 9 = .ok (.land, 1) := by decide +kernel
theorem dX8_comesTo_10 : decode cX8_comesTo 10 = .ok (.l2i, 1) := by decide +kernel
theorem dX8_comesTo_11 : decode cX8_comesTo 11 = .ok (.iastore, 1) := by decide +kernel
theorem dX8_comesTo_12 : decode cX8_comesTo 12 = .ok (.aload_n 0, 1) := by decide +kernel
theorem dX8_comesTo_13 : decode cX8_comesTo 13 = .ok (.lload_n 1, 1) := by decide +kernel
theorem dX8_comesTo_14 : decode cX8_comesTo 14 = .ok (.iconst 3, 1) := by decide +kernel
theorem dX8_comesTo_15 : decode cX8_comesTo 15 = .ok (.lshr, 1) := by decide +kernel
theorem dX8_comesTo_16 : decode cX8_comesTo 16 = .ok (.ldc2_w 215, 3) := by decide +kernel
theorem dX8_comesTo_19 : decode cX8_comesTo 19 = .ok (.land, 1) := by decide +kernel
theorem dX8_comesTo_20 : decode cX8_comesTo 20 = .ok (.l2i, 1) := by decide +kernel
theorem dX8_comesTo_21 : decode cX8_comesTo 21 = .ok (.putfield 150, 3) := by decide +kernel
theorem dX8_comesTo_24 : decode cX8_comesTo 24 = .ok (.aload_n 0, 1) := by decide +kernel
theorem dX8_comesTo_25 : decode cX8_comesTo 25 = .ok (.getfield 40, 3) := by decide +kernel
theorem dX8_comesTo_28 : decode cX8_comesTo 28 = .ok (.iconst 0, 1) := by decide +kernel
theorem dX8_comesTo_29 : decode cX8_comesTo 29 = .ok (.iaload, 1) := by decide +kernel
theorem dX8_comesTo_30 : decode cX8_comesTo 30 = .ok (.istore_n 3, 1) := by decide +kernel
theorem dX8_comesTo_31 : decode cX8_comesTo 31 = .ok (.aload_n 0, 1) := by decide +kernel
theorem dX8_comesTo_32 : decode cX8_comesTo 32 = .ok (.iconst 0, 1) := by decide +kernel
theorem dX8_comesTo_33 : decode cX8_comesTo 33 = .ok (.putfield 159, 3) := by decide +kernel
theorem dX8_comesTo_36 : decode cX8_comesTo 36 = .ok (.iconst 0, 1) := by decide +kernel
theorem dX8_comesTo_37 : decode cX8_comesTo 37 = .ok (.istore 4, 2) := by decide +kernel
theorem dX8_comesTo_39 : decode cX8_comesTo 39 = .ok (.iload 4, 2) := by decide +kernel
theorem dX8_comesTo_41 : decode cX8_comesTo 41 = .ok (.aload_n 0, 1) := by decide +kernel
theorem dX8_comesTo_42 : decode cX8_comesTo 42 = .ok (.getfield 150, 3) := by decide +kernel
theorem dX8_comesTo_45 : decode cX8_comesTo 45 = .ok (.if_icmp .ge 68, 3) := by decide +kernel
theorem dX8_comesTo_48 : decode cX8_comesTo 48 = .ok (.aload_n 0, 1) := by decide +kernel
theorem dX8_comesTo_49 : decode cX8_comesTo 49 = .ok (.getfield 43, 3) := by decide +kernel
theorem dX8_comesTo_52 : decode cX8_comesTo 52 = .ok (.iload 4, 2) := by decide +kernel
theorem dX8_comesTo_54 : decode cX8_comesTo 54 = .ok (.lload_n 1, 1) := by decide +kernel
theorem dX8_comesTo_55 : decode cX8_comesTo 55 = .ok (.bipush 8, 2) := by decide +kernel
theorem dX8_comesTo_57 : decode cX8_comesTo 57 = .ok (.iconst 3, 1) := by decide +kernel
theorem dX8_comesTo_58 : decode cX8_comesTo 58 = .ok (.iload 4, 2) := by decide +kernel
theorem dX8_comesTo_60 : decode cX8_comesTo 60 = .ok (.imul, 1) := by decide +kernel
theorem dX8_comesTo_61 : decode cX8_comesTo 61 = .ok (.iadd, 1) := by decide +kernel
theorem dX8_comesTo_62 : decode cX8_comesTo 62 = .ok (.lshr, 1) := by decide +kernel
theorem dX8_comesTo_63 : decode cX8_comesTo 63 = .ok (.ldc2_w 118, 3) := by decide +kernel
theorem dX8_comesTo_66 : decode cX8_comesTo 66 = .ok (.land, 1) := by decide +kernel
theorem dX8_comesTo_67 : decode cX8_comesTo 67 = .ok (.l2i, 1) := by decide +kernel
theorem dX8_comesTo_68 : decode cX8_comesTo 68 = .ok (.iastore, 1) := by decide +kernel
theorem dX8_comesTo_69 : decode cX8_comesTo 69 = .ok (.aload_n 0, 1) := by decide +kernel
theorem dX8_comesTo_70 : decode cX8_comesTo 70 = .ok (.aload_n 0, 1) := by decide +kernel
theorem dX8_comesTo_71 : decode cX8_comesTo 71 = .ok (.getfield 43, 3) := by decide +kernel
theorem dX8_comesTo_74 : decode cX8_comesTo 74 = .ok (.iload 4, 2) := by decide +kernel
theorem dX8_comesTo_76 : decode cX8_comesTo 76 = .ok (.iaload, 1) := by decide +kernel
theorem dX8_comesTo_77 : decode cX8_comesTo 77 = .ok (.iload_n 3, 1) := by decide +kernel
theorem dX8_comesTo_78 : decode cX8_comesTo 78 = .ok (.invokevirtual 156, 3) := by decide +kernel
theorem dX8_comesTo_81 : decode cX8_comesTo 81 = .ok (.istore_n 3, 1) := by decide +kernel
theorem dX8_comesTo_82 : decode cX8_comesTo 82 = .ok (.aload_n 0, 1) := by decide +kernel
theorem dX8_comesTo_83 : decode cX8_comesTo 83 = .ok (.dup, 1) := by decide +kernel
theorem dX8_comesTo_84 : decode cX8_comesTo 84 = .ok (.getfield 159, 3) := by decide +kernel
theorem dX8_comesTo_87 : decode cX8_comesTo 87 = .ok (.aload_n 0, 1) := by decide +kernel
theorem dX8_comesTo_88 : decode cX8_comesTo 88 = .ok (.getfield 28, 3) := by decide +kernel
theorem dX8_comesTo_91 : decode cX8_comesTo 91 = .ok (.iconst 3, 1) := by decide +kernel
theorem dX8_comesTo_92 : decode cX8_comesTo 92 = .ok (.aload_n 0, 1) := by decide +kernel
theorem dX8_comesTo_93 : decode cX8_comesTo 93 = .ok (.getfield 43, 3) := by decide +kernel
theorem dX8_comesTo_96 : decode cX8_comesTo 96 = .ok (.iload 4, 2) := by decide +kernel
theorem dX8_comesTo_98 : decode cX8_comesTo 98 = .ok (.iaload, 1) := by decide +kernel
theorem dX8_comesTo_99 : decode cX8_comesTo 99 = .ok (.imul, 1) := by decide +kernel
theorem dX8_comesTo_100 : decode cX8_comesTo 100 = .ok (.iconst 2, 1) := by decide +kernel
theorem dX8_comesTo_101 : decode cX8_comesTo 101 = .ok (.iadd, 1) := by decide +kernel
theorem dX8_comesTo_102 : decode cX8_comesTo 102 = .ok (.iaload, 1) := by decide +kernel
theorem dX8_comesTo_103 : decode cX8_comesTo 103 = .ok (.iadd, 1) := by decide +kernel
theorem dX8_comesTo_104 : decode cX8_comesTo 104 = .ok (.putfield 159, 3) := by decide +kernel
theorem dX8_comesTo_107 : decode cX8_comesTo 107 = .ok (.iinc 4 1, 3) := by decide +kernel
theorem dX8_comesTo_110 : decode cX8_comesTo 110 = .ok (.goto (-71), 3) := by decide +kernel
theorem dX8_comesTo_113 : decode cX8_comesTo 113 = .ok (.aload_n 0, 1) := by decide +kernel
theorem dX8_comesTo_114 : decode cX8_comesTo 114 = .ok (.getfield 40, 3) := by decide +kernel
theorem dX8_comesTo_117 : decode cX8_comesTo 117 = .ok (.iconst 1, 1) := by decide +kernel
theorem dX8_comesTo_118 : decode cX8_comesTo 118 = .ok (.iload_n 3, 1) := by decide +kernel
theorem dX8_comesTo_119 : decode cX8_comesTo 119 = .ok (.iastore, 1) := by decide +kernel
theorem dX8_comesTo_120 : decode cX8_comesTo 120 = .ok (.return_, 1) := by decide +kernel
theorem dX8_keepsWay_0 : decode cX8_keepsWay 0 = .ok (.iconst 0, 1) := by decide +kernel
theorem dX8_keepsWay_1 : decode cX8_keepsWay 1 = .ok (.istore_n 3, 1) := by decide +kernel
theorem dX8_keepsWay_2 : decode cX8_keepsWay 2 = .ok (.iload_n 3, 1) := by decide +kernel
theorem dX8_keepsWay_3 : decode cX8_keepsWay 3 = .ok (.aload_n 0, 1) := by decide +kernel
theorem dX8_keepsWay_4 : decode cX8_keepsWay 4 = .ok (.getfield 217, 3) := by decide +kernel
theorem dX8_keepsWay_7 : decode cX8_keepsWay 7 = .ok (.if_icmp .ge 21, 3) := by decide +kernel
theorem dX8_keepsWay_10 : decode cX8_keepsWay 10 = .ok (.aload_n 0, 1) := by decide +kernel
theorem dX8_keepsWay_11 : decode cX8_keepsWay 11 = .ok (.getfield 52, 3) := by decide +kernel
theorem dX8_keepsWay_14 : decode cX8_keepsWay 14 = .ok (.iload_n 3, 1) := by decide +kernel
theorem dX8_keepsWay_15 : decode cX8_keepsWay 15 = .ok (.laload, 1) := by decide +kernel
theorem dX8_keepsWay_16 : decode cX8_keepsWay 16 = .ok (.lload_n 1, 1) := by decide +kernel
theorem dX8_keepsWay_17 : decode cX8_keepsWay 17 = .ok (.lcmp, 1) := by decide +kernel
theorem dX8_keepsWay_18 : decode cX8_keepsWay 18 = .ok (.ifCond .ne 4, 3) := by decide +kernel
theorem dX8_keepsWay_21 : decode cX8_keepsWay 21 = .ok (.return_, 1) := by decide +kernel
theorem dX8_keepsWay_22 : decode cX8_keepsWay 22 = .ok (.iinc 3 1, 3) := by decide +kernel
theorem dX8_keepsWay_25 : decode cX8_keepsWay 25 = .ok (.goto (-23), 3) := by decide +kernel
theorem dX8_keepsWay_28 : decode cX8_keepsWay 28 = .ok (.aload_n 0, 1) := by decide +kernel
theorem dX8_keepsWay_29 : decode cX8_keepsWay 29 = .ok (.getfield 217, 3) := by decide +kernel
theorem dX8_keepsWay_32 : decode cX8_keepsWay 32 = .ok (.sipush 1000, 3) := by decide +kernel
theorem dX8_keepsWay_35 : decode cX8_keepsWay 35 = .ok (.if_icmp .gt 23, 3) := by decide +kernel
theorem dX8_keepsWay_38 : decode cX8_keepsWay 38 = .ok (.aload_n 0, 1) := by decide +kernel
theorem dX8_keepsWay_39 : decode cX8_keepsWay 39 = .ok (.getfield 52, 3) := by decide +kernel
theorem dX8_keepsWay_42 : decode cX8_keepsWay 42 = .ok (.aload_n 0, 1) := by decide +kernel
theorem dX8_keepsWay_43 : decode cX8_keepsWay 43 = .ok (.getfield 217, 3) := by decide +kernel
theorem dX8_keepsWay_46 : decode cX8_keepsWay 46 = .ok (.lload_n 1, 1) := by decide +kernel
