theorem dX5_fillFactor_2 : decode cX5_fillFactor 2 = .ok (.putfield 22, 3) := by decide +kernel
theorem dX5_fillFactor_5 : decode cX5_fillFactor 5 = .ok (.aload_n 0, 1) := by decide +kernel
theorem dX5_fillFactor_6 : decode cX5_fillFactor 6 = .ok (.invokevirtual 181, 3) := by decide +kernel
theorem dX5_fillFactor_9 : decode cX5_fillFactor 9 = .ok (.dreturn, 1) := by decide +kernel
theorem dX5_ifInserted_0 : decode cX5_ifInserted 0 = .ok (.aload_n 0, 1) := by decide +kernel
theorem dX5_ifInserted_1 : decode cX5_ifInserted 1 = .ok (.iload_n 1, 1) := by decide +kernel
theorem dX5_ifInserted_2 : decode cX5_ifInserted 2 = .ok (.iconst 0, 1) := by decide +kernel
theorem dX5_ifInserted_3 : decode cX5_ifInserted 3 = .ok (.bipush 60, 2) := by decide +kernel
theorem dX5_ifInserted_5 : decode cX5_ifInserted 5 = .ok (.invokestatic 78, 3) := by decide +kernel
theorem dX5_ifInserted_8 : decode cX5_ifInserted 8 = .ok (.ifCond .eq 7, 3) := by decide +kernel
theorem dX5_ifInserted_11 : decode cX5_ifInserted 11 = .ok (.iconst 0, 1) := by decide +kernel
theorem dX5_ifInserted_12 : decode cX5_ifInserted 12 = .ok (.goto 4, 3) := by decide +kernel
theorem dX5_ifInserted_15 : decode cX5_ifInserted 15 = .ok (.iconst 1, 1) := by decide +kernel
theorem dX5_ifInserted_16 : decode cX5_ifInserted 16 = .ok (.invokevirtual 146, 3) := by decide +kernel
theorem dX5_ifInserted_19 : decode cX5_ifInserted 19 = .ok (.ifCond .ne 5, 3) := by decide +kernel
theorem dX5_ifInserted_22 : decode cX5_ifInserted 22 = .ok (.iconst 0, 1) := by decide +kernel
theorem dX5_ifInserted_23 : decode cX5_ifInserted 23 = .ok (.ireturn, 1) := by decide +kernel
theorem dX5_ifInserted_24 : decode cX5_ifInserted 24 = .ok (.aload_n 0, 1) := by decide +kernel
theorem dX5_ifInserted_25 : decode cX5_ifInserted 25 = .ok (.iload_n 1, 1) := by decide +kernel
theorem dX5_ifInserted_26 : decode cX5_ifInserted 26 = .ok (.invokestatic 91, 3) := by decide +kernel
theorem dX5_ifInserted_29 : decode cX5_ifInserted 29 = .ok (.iconst (-1), 1) := by decide +kernel
theorem dX5_ifInserted_30 : decode cX5_ifInserted 30 = .ok (.iconst (-1), 1) := by decide +kernel
theorem dX5_ifInserted_31 : decode cX5_ifInserted 31 = .ok (.invokevirtual 94, 3) := by decide +kernel
theorem dX5_ifInserted_34 : decode cX5_ifInserted 34 = .ok (.istore_n 2, 1) := by decide +kernel
theorem dX5_ifInserted_35 : decode cX5_ifInserted 35 = .ok (.iload_n 2, 1) := by decide +kernel
theorem dX5_ifInserted_36 : decode cX5_ifInserted 36 = .ok (.iconst (-1), 1) := by decide +kernel
theorem dX5_ifInserted_37 : decode cX5_ifInserted 37 = .ok (.if_icmp .eq 13, 3) := by decide +kernel
theorem dX5_ifInserted_40 : decode cX5_ifInserted 40 = .ok (.iload_n 2, 1) := by decide +kernel
theorem dX5_ifInserted_41 : decode cX5_ifInserted 41 = .ok (.aload_n 0, 1) := by decide +kernel
theorem dX5_ifInserted_42 : decode cX5_ifInserted 42 = .ok (.getfield 7, 3) := by decide +kernel
theorem dX5_ifInserted_45 : decode cX5_ifInserted 45 = .ok (.iconst 0, 1) := by decide +kernel
theorem dX5_ifInserted_46 : decode cX5_ifInserted 46 = .ok (.iaload, 1) := by decide +kernel
theorem dX5_ifInserted_47 : decode cX5_ifInserted 47 = .ok (.if_icmp .ne 17, 3) := by decide +kernel
theorem dX5_ifInserted_50 : decode cX5_ifInserted 50 = .ok (.iload_n 2, 1) := by decide +kernel
theorem dX5_ifInserted_51 : decode cX5_ifInserted 51 = .ok (.iconst (-1), 1) := by decide +kernel
theorem dX5_ifInserted_52 : decode cX5_ifInserted 52 = .ok (.if_icmp .ne 7, 3) := by decide +kernel
theorem dX5_ifInserted_55 : decode cX5_ifInserted 55 = .ok (.iconst (-1), 1) := by decide +kernel
theorem dX5_ifInserted_56 : decode cX5_ifInserted 56 = .ok (.goto 7, 3) := by decide +kernel
theorem dX5_ifInserted_59 : decode cX5_ifInserted 59 = .ok (.bipush 100, 2) := by decide +kernel
theorem dX5_ifInserted_61 : decode cX5_ifInserted 61 = .ok (.iload_n 2, 1) := by decide +kernel
theorem dX5_ifInserted_62 : decode cX5_ifInserted 62 = .ok (.imul, 1) := by decide +kernel
theorem dX5_ifInserted_63 : decode cX5_ifInserted 63 = .ok (.ireturn, 1) := by decide +kernel
theorem dX5_ifInserted_64 : decode cX5_ifInserted 64 = .ok (.aload_n 0, 1) := by decide +kernel
theorem dX5_ifInserted_65 : decode cX5_ifInserted 65 = .ok (.iload_n 2, 1) := by decide +kernel
theorem dX5_ifInserted_66 : decode cX5_ifInserted 66 = .ok (.invokevirtual 44, 3) := by decide +kernel
theorem dX5_ifInserted_69 : decode cX5_ifInserted 69 = .ok (.istore_n 3, 1) := by decide +kernel
theorem dX5_ifInserted_70 : decode cX5_ifInserted 70 = .ok (.bipush 100, 2) := by decide +kernel
theorem dX5_ifInserted_72 : decode cX5_ifInserted 72 = .ok (.iload_n 2, 1) := by decide +kernel
theorem dX5_ifInserted_73 : decode cX5_ifInserted 73 = .ok (.imul, 1) := by decide +kernel
theorem dX5_ifInserted_74 : decode cX5_ifInserted 74 = .ok (.iload_n 3, 1) := by decide +kernel
theorem dX5_ifInserted_75 : decode cX5_ifInserted 75 = .ok (.iconst (-1), 1) := by decide +kernel
theorem dX5_ifInserted_76 : decode cX5_ifInserted 76 = .ok (.if_icmp .ne 12, 3) := by decide +kernel
theorem dX5_ifInserted_79 : decode cX5_ifInserted 79 = .ok (.aload_n 0, 1) := by decide +kernel
theorem dX5_ifInserted_80 : decode cX5_ifInserted 80 = .ok (.iload_n 2, 1) := by decide +kernel
theorem dX5_ifInserted_81 : decode cX5_ifInserted 81 = .ok (.iconst 0, 1) := by decide +kernel
theorem dX5_ifInserted_82 : decode cX5_ifInserted 82 = .ok (.invokevirtual 26, 3) := by decide +kernel
theorem dX5_ifInserted_85 : decode cX5_ifInserted 85 = .ok (.goto 4, 3) := by decide +kernel
theorem dX5_ifInserted_88 : decode cX5_ifInserted 88 = .ok (.iload_n 3, 1) := by decide +kernel
theorem dX5_ifInserted_89 : decode cX5_ifInserted 89 = .ok (.iadd, 1) := by decide +kernel
theorem dX5_ifInserted_90 : decode cX5_ifInserted 90 = .ok (.ireturn, 1) := by decide +kernel
theorem dX5_ifUpdated_0 : decode cX5_ifUpdated 0 = .ok (.aload_n 0, 1) := by decide +kernel
theorem dX5_ifUpdated_1 : decode cX5_ifUpdated 1 = .ok (.aload_n 0, 1) := by decide +kernel
theorem dX5_ifUpdated_2 : decode cX5_ifUpdated 2 = .ok (.iload_n 1, 1) := by decide +kernel
theorem dX5_ifUpdated_3 : decode cX5_ifUpdated 3 = .ok (.invokevirtual 160, 3) := by decide +kernel
theorem dX5_ifUpdated_6 : decode cX5_ifUpdated 6 = .ok (.ifCond .ne 7, 3) := by decide +kernel
theorem dX5_ifUpdated_9 : decode cX5_ifUpdated 9 = .ok (.iconst 1, 1) := by decide +kernel
theorem dX5_ifUpdated_10 : decode cX5_ifUpdated 10 = .ok (.goto 18, 3) := by decide +kernel
theorem dX5_ifUpdated_13 : decode cX5_ifUpdated 13 = .ok (.iload_n 2, 1) := by decide +kernel
theorem dX5_ifUpdated_14 : decode cX5_ifUpdated 14 = .ok (.iconst 0, 1) := by decide +kernel
theorem dX5_ifUpdated_15 : decode cX5_ifUpdated 15 = .ok (.bipush 60, 2) := by decide +kernel
theorem dX5_ifUpdated_17 : decode cX5_ifUpdated 17 = .ok (.invokestatic 78, 3) := by decide +kernel
theorem dX5_ifUpdated_20 : decode cX5_ifUpdated 20 = .ok (.ifCond .ne 7, 3) := by decide +kernel
theorem dX5_ifUpdated_23 : decode cX5_ifUpdated 23 = .ok (.iconst 2, 1) := by decide +kernel
theorem dX5_ifUpdated_24 : decode cX5_ifUpdated 24 = .ok (.goto 4, 3) := by decide +kernel
theorem dX5_ifUpdated_27 : decode cX5_ifUpdated 27 = .ok (.iconst 0, 1) := by decide +kernel
theorem dX5_ifUpdated_28 : decode cX5_ifUpdated 28 = .ok (.invokevirtual 146, 3) := by decide +kernel
theorem dX5_ifUpdated_31 : decode cX5_ifUpdated 31 = .ok (.ifCond .eq 12, 3) := by decide +kernel
theorem dX5_ifUpdated_34 : decode cX5_ifUpdated 34 = .ok (.aload_n 0, 1) := by decide +kernel
theorem dX5_ifUpdated_35 : decode cX5_ifUpdated 35 = .ok (.iload_n 1, 1) := by decide +kernel
theorem dX5_ifUpdated_36 : decode cX5_ifUpdated 36 = .ok (.iload_n 2, 1) := by decide +kernel
theorem dX5_ifUpdated_37 : decode cX5_ifUpdated 37 = .ok (.invokevirtual 119, 3) := by decide +kernel
theorem dX5_ifUpdated_40 : decode cX5_ifUpdated 40 = .ok (.goto 4, 3) := by decide +kernel
theorem dX5_ifUpdated_43 : decode cX5_ifUpdated 43 = .ok (.iconst 0, 1) := by decide +kernel
theorem dX5_ifUpdated_44 : decode cX5_ifUpdated 44 = .ok (.ireturn, 1) := by decide +kernel
theorem dX5_greatestAtHome_0 : decode cX5_greatestAtHome 0 = .ok (.aload_n 0, 1) := by decide +kernel
theorem dX5_greatestAtHome_1 : decode cX5_greatestAtHome 1 = .ok (.aload_n 0, 1) := by decide +kernel
theorem dX5_greatestAtHome_2 : decode cX5_greatestAtHome 2 = .ok (.iload_n 1, 1) := by decide +kernel
theorem dX5_greatestAtHome_3 : decode cX5_greatestAtHome 3 = .ok (.invokevirtual 160, 3) := by decide +kernel
theorem dX5_greatestAtHome_6 : decode cX5_greatestAtHome 6 = .ok (.ifCond .eq 7, 3) := by decide +kernel
theorem dX5_greatestAtHome_9 : decode cX5_greatestAtHome 9 = .ok (.iconst 0, 1) := by decide +kernel
theorem dX5_greatestAtHome_10 : decode cX5_greatestAtHome 10 = .ok (.goto 4, 3) := by decide +kernel
theorem dX5_greatestAtHome_13 : decode cX5_greatestAtHome 13 = .ok (.iconst 1, 1) := by decide +kernel
theorem dX5_greatestAtHome_14 : decode cX5_greatestAtHome 14 = .ok (.invokevirtual 146, 3) := by decide +kernel
theorem dX5_greatestAtHome_17 : decode cX5_greatestAtHome 17 = .ok (.ifCond .ne 5, 3) := by decide +kernel
theorem dX5_greatestAtHome_20 : decode cX5_greatestAtHome 20 = .ok (.iconst 0, 1) := by decide +kernel
theorem dX5_greatestAtHome_21 : decode cX5_greatestAtHome 21 = .ok (.ireturn, 1) := by decide +kernel
theorem dX5_greatestAtHome_22 : decode cX5_greatestAtHome 22 = .ok (.bipush 60, 2) := by decide +kernel
theorem dX5_greatestAtHome_24 : decode cX5_greatestAtHome 24 = .ok (.istore_n 2, 1) := by decide +kernel
theorem dX5_greatestAtHome_25 : decode cX5_greatestAtHome 25 = .ok (.aload_n 0, 1) := by decide +kernel
theorem dX5_greatestAtHome_26 : decode cX5_greatestAtHome 26 = .ok (.iload_n 1, 1) := by decide +kernel
theorem dX5_greatestAtHome_27 : decode cX5_greatestAtHome 27 = .ok (.bipush 100, 2) := by decide +kernel
theorem dX5_greatestAtHome_29 : decode cX5_greatestAtHome 29 = .ok (.idiv, 1) := by decide +kernel
theorem dX5_greatestAtHome_30 : decode cX5_greatestAtHome 30 = .ok (.iload_n 1, 1) := by decide +kernel
theorem dX5_greatestAtHome_31 : decode cX5_greatestAtHome 31 = .ok (.bipush 100, 2) := by decide +kernel
theorem dX5_greatestAtHome_33 : decode cX5_greatestAtHome 33 = .ok (.irem, 1) := by decide +kernel
theorem dX5_greatestAtHome_34 : decode cX5_greatestAtHome 34 = .ok (.iload_n 2, 1) := by decide +kernel
theorem dX5_greatestAtHome_35 : decode cX5_greatestAtHome 35 = .ok (.invokestatic 91, 3) := by decide +kernel
theorem dX5_greatestAtHome_38 : decode cX5_greatestAtHome 38 = .ok (.invokevirtual 107, 3) := by decide +kernel
theorem dX5_greatestAtHome_41 : decode cX5_greatestAtHome 41 = .ok (.ifCond .ne 9, 3) := by decide +kernel
theorem dX5_greatestAtHome_44 : decode cX5_greatestAtHome 44 = .ok (.iinc 2 (-1), 3) := by decide +kernel
theorem dX5_greatestAtHome_47 : decode cX5_greatestAtHome 47 = .ok (.goto (-22), 3) := by decide +kernel
theorem dX5_greatestAtHome_50 : decode cX5_greatestAtHome 50 = .ok (.iload_n 2, 1) := by decide +kernel
theorem dX5_greatestAtHome_51 : decode cX5_greatestAtHome 51 = .ok (.ireturn, 1) := by decide +kernel
theorem dX5_taken_0 : decode cX5_taken 0 = .ok (.iconst 0, 1) := by decide +kernel
theorem dX5_taken_1 : decode cX5_taken 1 = .ok (.istore 4, 2) := by decide +kernel
theorem dX5_taken_3 : decode cX5_taken 3 = .ok (.iload_n 3, 1) := by decide +kernel
theorem dX5_taken_4 : decode cX5_taken 4 = .ok (.istore 5, 2) := by decide +kernel
theorem dX5_taken_6 : decode cX5_taken 6 = .ok (.iload 4, 2) := by decide +kernel
theorem dX5_taken_8 : decode cX5_taken 8 = .ok (.iload_n 1, 1) := by decide +kernel
theorem dX5_taken_9 : decode cX5_taken 9 = .ok (.if_icmp .ge 21, 3) := by decide +kernel
theorem dX5_taken_12 : decode cX5_taken 12 = .ok (.iload_n 0, 1) := by decide +kernel
theorem dX5_taken_13 : decode cX5_taken 13 = .ok (.iload 5, 2) := by decide +kernel
theorem dX5_taken_15 : decode cX5_taken 15 = .ok (.if_icmp .gt 15, 3) := by decide +kernel
theorem dX5_taken_18 : decode cX5_taken 18 = .ok (.iload 5, 2) := by decide +kernel
theorem dX5_taken_20 : decode cX5_taken 20 = .ok (.iload_n 0, 1) := by decide +kernel
theorem dX5_taken_21 : decode cX5_taken 21 = .ok (.isub, 1) := by decide +kernel
theorem dX5_taken_22 : decode cX5_taken 22 = .ok (.istore 5, 2) := by decide +kernel
theorem dX5_taken_24 : decode cX5_taken 24 = .ok (.iinc 4 1, 3) := by decide +kernel
theorem dX5_taken_27 : decode cX5_taken 27 = .ok (.goto (-21), 3) := by decide +kernel
theorem dX5_taken_30 : decode cX5_taken 30 = .ok (.iload 4, 2) := by decide +kernel
theorem dX5_taken_32 : decode cX5_taken 32 = .ok (.iload_n 1, 1) := by decide +kernel
theorem dX5_taken_33 : decode cX5_taken 33 = .ok (.if_icmp .ge 8, 3) := by decide +kernel
theorem dX5_taken_36 : decode cX5_taken 36 = .ok (.bipush 31, 2) := by decide +kernel
theorem dX5_taken_38 : decode cX5_taken 38 = .ok (.goto 4, 3) := by decide +kernel
theorem dX5_taken_41 : decode cX5_taken 41 = .ok (.iload_n 2, 1) := by decide +kernel
theorem dX5_taken_42 : decode cX5_taken 42 = .ok (.istore 6, 2) := by decide +kernel
theorem dX5_taken_44 : decode cX5_taken 44 = .ok (.iload 6, 2) := by decide +kernel
theorem dX5_taken_46 : decode cX5_taken 46 = .ok (.bipush 31, 2) := by decide +kernel
theorem dX5_taken_48 : decode cX5_taken 48 = .ok (.if_icmp .ge 28, 3) := by decide +kernel
theorem dX5_taken_51 : decode cX5_taken 51 = .ok (.iload_n 0, 1) := by decide +kernel
theorem dX5_taken_52 : decode cX5_taken 52 = .ok (.iconst 2, 1) := by decide +kernel
theorem dX5_taken_53 : decode cX5_taken 53 = .ok (.iadd, 1) := by decide +kernel
theorem dX5_taken_54 : decode cX5_taken 54 = .ok (.iload 5, 2) := by decide +kernel
theorem dX5_taken_56 : decode cX5_taken 56 = .ok (.if_icmp .gt 20, 3) := by decide +kernel
theorem dX5_taken_59 : decode cX5_taken 59 = .ok (.iload 5, 2) := by decide +kernel
theorem dX5_taken_61 : decode cX5_taken 61 = .ok (.iload_n 0, 1) := by decide +kernel
theorem dX5_taken_62 : decode cX5_taken 62 = .ok (.iconst 2, 1) := by decide +kernel
theorem dX5_taken_63 : decode cX5_taken 63 = .ok (.iadd, 1) := by decide +kernel
theorem dX5_taken_64 : decode cX5_taken 64 = .ok (.isub, 1) := by decide +kernel
theorem dX5_taken_65 : decode cX5_taken 65 = .ok (.istore 5, 2) := by decide +kernel
theorem dX5_taken_67 : decode cX5_taken 67 = .ok (.iinc 6 1, 3) := by decide +kernel
theorem dX5_taken_70 : decode cX5_taken 70 = .ok (.iinc 4 1, 3) := by decide +kernel
theorem dX5_taken_73 : decode cX5_taken 73 = .ok (.goto (-29), 3) := by decide +kernel
theorem dX5_taken_76 : decode cX5_taken 76 = .ok (.iload 4, 2) := by decide +kernel
theorem dX5_taken_78 : decode cX5_taken 78 = .ok (.ireturn, 1) := by decide +kernel
theorem dX5_capacity_0 : decode cX5_capacity 0 = .ok (.aload_n 0, 1) := by decide +kernel
theorem dX5_capacity_1 : decode cX5_capacity 1 = .ok (.iload_n 1, 1) := by decide +kernel
theorem dX5_capacity_2 : decode cX5_capacity 2 = .ok (.iconst 0, 1) := by decide +kernel
theorem dX5_capacity_3 : decode cX5_capacity 3 = .ok (.bipush 60, 2) := by decide +kernel
theorem dX5_capacity_5 : decode cX5_capacity 5 = .ok (.invokestatic 78, 3) := by decide +kernel
theorem dX5_capacity_8 : decode cX5_capacity 8 = .ok (.ifCond .eq 7, 3) := by decide +kernel
theorem dX5_capacity_11 : decode cX5_capacity 11 = .ok (.iconst 0, 1) := by decide +kernel
theorem dX5_capacity_12 : decode cX5_capacity 12 = .ok (.goto 4, 3) := by decide +kernel
theorem dX5_capacity_15 : decode cX5_capacity 15 = .ok (.iconst 1, 1) := by decide +kernel
theorem dX5_capacity_16 : decode cX5_capacity 16 = .ok (.invokevirtual 146, 3) := by decide +kernel
theorem dX5_capacity_19 : decode cX5_capacity 19 = .ok (.ifCond .ne 5, 3) := by decide +kernel
theorem dX5_capacity_22 : decode cX5_capacity 22 = .ok (.iconst 0, 1) := by decide +kernel
theorem dX5_capacity_23 : decode cX5_capacity 23 = .ok (.ireturn, 1) := by decide +kernel
theorem dX5_capacity_24 : decode cX5_capacity 24 = .ok (.iconst 0, 1) := by decide +kernel
theorem dX5_capacity_25 : decode cX5_capacity 25 = .ok (.istore_n 2, 1) := by decide +kernel
theorem dX5_capacity_26 : decode cX5_capacity 26 = .ok (.iconst 0, 1) := by decide +kernel
theorem dX5_capacity_27 : decode cX5_capacity 27 = .ok (.istore_n 3, 1) := by decide +kernel
theorem dX5_capacity_28 : decode cX5_capacity 28 = .ok (.iload_n 3, 1) := by decide +kernel
theorem dX5_capacity_29 : decode cX5_capacity 29 = .ok (.bipush 8, 2) := by decide +kernel
theorem dX5_capacity_31 : decode cX5_capacity 31 = .ok (.if_icmp .ge 116, 3) := by decide +kernel
theorem dX5_capacity_34 : decode cX5_capacity 34 = .ok (.iconst 0, 1) := by decide +kernel
theorem dX5_capacity_35 : decode cX5_capacity 35 = .ok (.istore 4, 2) := by decide +kernel
theorem dX5_capacity_37 : decode cX5_capacity 37 = .ok (.iload_n 3, 1) := by decide +kernel
theorem dX5_capacity_38 : decode cX5_capacity 38 = .ok (.aload_n 0, 1) := by decide +kernel
theorem dX5_capacity_39 : decode cX5_capacity 39 = .ok (.getfield 7, 3) := by decide +kernel
theorem dX5_capacity_42 : decode cX5_capacity 42 = .ok (.iconst 0, 1) := by decide +kernel
theorem dX5_capacity_43 : decode cX5_capacity 43 = .ok (.iaload, 1) := by decide +kernel
theorem dX5_capacity_44 : decode cX5_capacity 44 = .ok (.if_icmp .ge 7, 3) := by decide +kernel
theorem dX5_capacity_47 : decode cX5_capacity 47 = .ok (.iconst 1, 1) := by decide +kernel
theorem dX5_capacity_48 : decode cX5_capacity 48 = .ok (.goto 4, 3) := by decide +kernel
theorem dX5_capacity_51 : decode cX5_capacity 51 = .ok (.iconst 0, 1) := by decide +kernel
theorem dX5_capacity_52 : decode cX5_capacity 52 = .ok (.istore 5, 2) := by decide +kernel
theorem dX5_capacity_54 : decode cX5_capacity 54 = .ok (.iconst 0, 1) := by decide +kernel
theorem dX5_capacity_55 : decode cX5_capacity 55 = .ok (.istore 6, 2) := by decide +kernel
theorem dX5_capacity_57 : decode cX5_capacity 57 = .ok (.iload 5, 2) := by decide +kernel
theorem dX5_capacity_59 : decode cX5_capacity 59 = .ok (.ifCond .eq 40, 3) := by decide +kernel
theorem dX5_capacity_62 : decode cX5_capacity 62 = .ok (.iload 6, 2) := by decide +kernel
theorem dX5_capacity_64 : decode cX5_capacity 64 = .ok (.aload_n 0, 1) := by decide +kernel
theorem dX5_capacity_65 : decode cX5_capacity 65 = .ok (.iload_n 3, 1) := by decide +kernel
theorem dX5_capacity_66 : decode cX5_capacity 66 = .ok (.iconst 0, 1) := by decide +kernel
theorem dX5_capacity_67 : decode cX5_capacity 67 = .ok (.invokevirtual 26, 3) := by decide +kernel
theorem dX5_capacity_70 : decode cX5_capacity 70 = .ok (.if_icmp .ge 29, 3) := by decide +kernel
theorem dX5_capacity_73 : decode cX5_capacity 73 = .ok (.iload 4, 2) := by decide +kernel
theorem dX5_capacity_75 : decode cX5_capacity 75 = .ok (.aload_n 0, 1) := by decide +kernel
theorem dX5_capacity_76 : decode cX5_capacity 76 = .ok (.iload_n 3, 1) := by decide +kernel
theorem dX5_capacity_77 : decode cX5_capacity 77 = .ok (.iload 6, 2) := by decide +kernel
theorem dX5_capacity_79 : decode cX5_capacity 79 = .ok (.invokevirtual 34, 3) := by decide +kernel
theorem dX5_capacity_82 : decode cX5_capacity 82 = .ok (.ifCond .ne 7, 3) := by decide +kernel
theorem dX5_capacity_85 : decode cX5_capacity 85 = .ok (.iconst 1, 1) := by decide +kernel
theorem dX5_capacity_86 : decode cX5_capacity 86 = .ok (.goto 4, 3) := by decide +kernel
theorem dX5_capacity_89 : decode cX5_capacity 89 = .ok (.iconst 0, 1) := by decide +kernel
theorem dX5_capacity_90 : decode cX5_capacity 90 = .ok (.iadd, 1) := by decide +kernel
theorem dX5_capacity_91 : decode cX5_capacity 91 = .ok (.istore 4, 2) := by decide +kernel
theorem dX5_capacity_93 : decode cX5_capacity 93 = .ok (.iinc 6 1, 3) := by decide +kernel
theorem dX5_capacity_96 : decode cX5_capacity 96 = .ok (.goto (-39), 3) := by decide +kernel
theorem dX5_capacity_99 : decode cX5_capacity 99 = .ok (.iload_n 2, 1) := by decide +kernel
theorem dX5_capacity_100 : decode cX5_capacity 100 = .ok (.iload 5, 2) := by decide +kernel
theorem dX5_capacity_102 : decode cX5_capacity 102 = .ok (.ifCond .eq 26, 3) := by decide +kernel
theorem dX5_capacity_105 : decode cX5_capacity 105 = .ok (.iload_n 1, 1) := by decide +kernel
theorem dX5_capacity_106 : decode cX5_capacity 106 = .ok (.invokestatic 91, 3) := by decide +kernel
theorem dX5_capacity_109 : decode cX5_capacity 109 = .ok (.iload 4, 2) := by decide +kernel
theorem dX5_capacity_111 : decode cX5_capacity 111 = .ok (.aload_n 0, 1) := by decide +kernel
theorem dX5_capacity_112 : decode cX5_capacity 112 = .ok (.iload_n 3, 1) := by decide +kernel
theorem dX5_capacity_113 : decode cX5_capacity 113 = .ok (.iconst 0, 1) := by decide +kernel
theorem dX5_capacity_114 : decode cX5_capacity 114 = .ok (.invokevirtual 26, 3) := by decide +kernel
theorem dX5_capacity_117 : decode cX5_capacity 117 = .ok (.aload_n 0, 1) := by decide +kernel
theorem dX5_capacity_118 : decode cX5_capacity 118 = .ok (.iload_n 3, 1) := by decide +kernel
theorem dX5_capacity_119 : decode cX5_capacity 119 = .ok (.invokevirtual 47, 3) := by decide +kernel
theorem dX5_capacity_122 : decode cX5_capacity 122 = .ok (.invokestatic 185, 3) := by decide +kernel
theorem dX5_capacity_125 : decode cX5_capacity 125 = .ok (.goto 14, 3) := by decide +kernel
theorem dX5_capacity_128 : decode cX5_capacity 128 = .ok (.iload_n 1, 1) := by decide +kernel
theorem dX5_capacity_129 : decode cX5_capacity 129 = .ok (.invokestatic 91, 3) := by decide +kernel
theorem dX5_capacity_132 : decode cX5_capacity 132 = .ok (.iconst 0, 1) := by decide +kernel
theorem dX5_capacity_133 : decode cX5_capacity 133 = .ok (.iconst 0, 1) := by decide +kernel
theorem dX5_capacity_134 : decode cX5_capacity 134 = .ok (.bipush 126, 2) := by decide +kernel
theorem dX5_capacity_136 : decode cX5_capacity 136 = .ok (.invokestatic 185, 3) := by decide +kernel
theorem dX5_capacity_139 : decode cX5_capacity 139 = .ok (.iadd, 1) := by decide +kernel
theorem dX5_capacity_140 : decode cX5_capacity 140 = .ok (.istore_n 2, 1) := by decide +kernel
theorem dX5_capacity_141 : decode cX5_capacity 141 = .ok (.iinc 3 1, 3) := by decide +kernel
theorem dX5_capacity_144 : decode cX5_capacity 144 = .ok (.goto (-116), 3) := by decide +kernel
theorem dX5_capacity_147 : decode cX5_capacity 147 = .ok (.iload_n 2, 1) := by decide +kernel
theorem dX5_capacity_148 : decode cX5_capacity 148 = .ok (.ireturn, 1) := by decide +kernel
theorem dX5_sign_0 : decode cX5_sign 0 = .ok (.aload_n 0, 1) := by decide +kernel
theorem dX5_sign_1 : decode cX5_sign 1 = .ok (.getfield 189, 3) := by decide +kernel
theorem dX5_sign_4 : decode cX5_sign 4 = .ok (.aload_n 0, 1) := by decide +kernel
theorem dX5_sign_5 : decode cX5_sign 5 = .ok (.getfield 143, 3) := by decide +kernel
theorem dX5_sign_8 : decode cX5_sign 8 = .ok (.if_icmp .ge 15, 3) := by decide +kernel
theorem dX5_sign_11 : decode cX5_sign 11 = .ok (.aload_n 0, 1) := by decide +kernel
theorem dX5_sign_12 : decode cX5_sign 12 = .ok (.getfield 13, 3) := by decide +kernel
theorem dX5_sign_15 : decode cX5_sign 15 = .ok (.aload_n 0, 1) := by decide +kernel
theorem dX5_sign_16 : decode cX5_sign 16 = .ok (.getfield 189, 3) := by decide +kernel
theorem dX5_sign_19 : decode cX5_sign 19 = .ok (.iaload, 1) := by decide +kernel
theorem dX5_sign_20 : decode cX5_sign 20 = .ok (.goto 4, 3) := by decide +kernel
theorem dX5_sign_23 : decode cX5_sign 23 = .ok (.iconst (-1), 1) := by decide +kernel
theorem dX5_sign_24 : decode cX5_sign 24 = .ok (.ireturn, 1) := by decide +kernel
theorem dX5_takes_0 : decode cX5_takes 0 = .ok (.aload_n 0, 1) := by decide +kernel
theorem dX5_takes_1 : decode cX5_takes 1 = .ok (.invokevirtual 192, 3) := by decide +kernel
theorem dX5_takes_4 : decode cX5_takes 4 = .ok (.iload_n 1, 1) := by decide +kernel
theorem dX5_takes_5 : decode cX5_takes 5 = .ok (.if_icmp .ne 7, 3) := by decide +kernel
theorem dX5_takes_8 : decode cX5_takes 8 = .ok (.iconst 1, 1) := by decide +kernel
theorem dX5_takes_9 : decode cX5_takes 9 = .ok (.goto 4, 3) := by decide +kernel
theorem dX5_takes_12 : decode cX5_takes 12 = .ok (.iconst 0, 1) := by decide +kernel
theorem dX5_takes_13 : decode cX5_takes 13 = .ok (.istore_n 2, 1) := by decide +kernel
theorem dX5_takes_14 : decode cX5_takes 14 = .ok (.aload_n 0, 1) := by decide +kernel
theorem dX5_takes_15 : decode cX5_takes 15 = .ok (.dup, 1) := by decide +kernel
theorem dX5_takes_16 : decode cX5_takes 16 = .ok (.getfield 189, 3) := by decide +kernel
theorem dX5_takes_19 : decode cX5_takes 19 = .ok (.iload_n 2, 1) := by decide +kernel
theorem dX5_takes_20 : decode cX5_takes 20 = .ok (.ifCond .eq 7, 3) := by decide +kernel
theorem dX5_takes_23 : decode cX5_takes 23 = .ok (.iconst 1, 1) := by decide +kernel
theorem dX5_takes_24 : decode cX5_takes 24 = .ok (.goto 4, 3) := by decide +kernel
theorem dX5_takes_27 : decode cX5_takes 27 = .ok (.iconst 0, 1) := by decide +kernel
theorem dX5_takes_28 : decode cX5_takes 28 = .ok (.iadd, 1) := by decide +kernel
theorem dX5_takes_29 : decode cX5_takes 29 = .ok (.putfield 189, 3) := by decide +kernel
theorem dX5_takes_32 : decode cX5_takes 32 = .ok (.iload_n 2, 1) := by decide +kernel
theorem dX5_takes_33 : decode cX5_takes 33 = .ok (.ireturn, 1) := by decide +kernel
theorem dX5_readsIdentifier_0 : decode cX5_readsIdentifier 0 = .ok (.aload_n 0, 1) := by decide +kernel
theorem dX5_readsIdentifier_1 : decode cX5_readsIdentifier 1 = .ok (.invokevirtual 192, 3) := by decide +kernel
theorem dX5_readsIdentifier_4 : decode cX5_readsIdentifier 4 = .ok (.bipush 48, 2) := by decide +kernel
theorem dX5_readsIdentifier_6 : decode cX5_readsIdentifier 6 = .ok (.bipush 57, 2) := by decide +kernel
theorem dX5_readsIdentifier_8 : decode cX5_readsIdentifier 8 = .ok (.invokestatic 78, 3) := by decide +kernel
theorem dX5_readsIdentifier_11 : decode cX5_readsIdentifier 11 = .ok (.ifCond .ne 5, 3) := by decide +kernel
theorem dX5_readsIdentifier_14 : decode cX5_readsIdentifier 14 = .ok (.iconst 0, 1) := by decide +kernel
theorem dX5_readsIdentifier_15 : decode cX5_readsIdentifier 15 = .ok (.ireturn, 1) := by decide +kernel
theorem dX5_readsIdentifier_16 : decode cX5_readsIdentifier 16 = .ok (.aload_n 0, 1) := by decide +kernel
theorem dX5_readsIdentifier_17 : decode cX5_readsIdentifier 17 = .ok (.aload_n 0, 1) := by decide +kernel
theorem dX5_readsIdentifier_18 : decode cX5_readsIdentifier 18 = .ok (.invokevirtual 192, 3) := by decide +kernel
theorem dX5_readsIdentifier_21 : decode cX5_readsIdentifier 21 = .ok (.bipush 48, 2) := by decide +kernel
theorem dX5_readsIdentifier_23 : decode cX5_readsIdentifier 23 = .ok (.isub, 1) := by decide +kernel
theorem dX5_readsIdentifier_24 : decode cX5_readsIdentifier 24 = .ok (.putfield 195, 3) := by decide +kernel
theorem dX5_readsIdentifier_27 : decode cX5_readsIdentifier 27 = .ok (.aload_n 0, 1) := by decide +kernel
theorem dX5_readsIdentifier_28 : decode cX5_readsIdentifier 28 = .ok (.dup, 1) := by decide +kernel
theorem dX5_readsIdentifier_29 : decode cX5_readsIdentifier 29 = .ok (.getfield 189, 3) := by decide +kernel
theorem dX5_readsIdentifier_32 : decode cX5_readsIdentifier 32 = .ok (.iconst 1, 1) := by decide +kernel
theorem dX5_readsIdentifier_33 : decode cX5_readsIdentifier 33 = .ok (.iadd, 1) := by decide +kernel
theorem dX5_readsIdentifier_34 : decode cX5_readsIdentifier 34 = .ok (.putfield 189, 3) := by decide +kernel
theorem dX5_readsIdentifier_37 : decode cX5_readsIdentifier 37 = .ok (.aload_n 0, 1) := by decide +kernel
theorem dX5_readsIdentifier_38 : decode cX5_readsIdentifier 38 = .ok (.getfield 195, 3) := by decide +kernel
theorem dX5_readsIdentifier_41 : decode cX5_readsIdentifier 41 = .ok (.ifCond .le 70, 3) := by decide +kernel
theorem dX5_readsIdentifier_44 : decode cX5_readsIdentifier 44 = .ok (.aload_n 0, 1) := by decide +kernel
theorem dX5_readsIdentifier_45 : decode cX5_readsIdentifier 45 = .ok (.invokevirtual 192, 3) := by decide +kernel
theorem dX5_readsIdentifier_48 : decode cX5_readsIdentifier 48 = .ok (.bipush 48, 2) := by decide +kernel
theorem dX5_readsIdentifier_50 : decode cX5_readsIdentifier 50 = .ok (.bipush 57, 2) := by decide +kernel
theorem dX5_readsIdentifier_52 : decode cX5_readsIdentifier 52 = .ok (.invokestatic 78, 3) := by decide +kernel
theorem dX5_readsIdentifier_55 : decode cX5_readsIdentifier 55 = .ok (.ifCond .eq 56, 3) := by decide +kernel
theorem dX5_readsIdentifier_58 : decode cX5_readsIdentifier 58 = .ok (.bipush 10, 2) := by decide +kernel
theorem dX5_readsIdentifier_60 : decode cX5_readsIdentifier 60 = .ok (.aload_n 0, 1) := by decide +kernel
theorem dX5_readsIdentifier_61 : decode cX5_readsIdentifier 61 = .ok (.getfield 195, 3) := by decide +kernel
theorem dX5_readsIdentifier_64 : decode cX5_readsIdentifier 64 = .ok (.imul, 1) := by decide +kernel
theorem dX5_readsIdentifier_65 : decode cX5_readsIdentifier 65 = .ok (.aload_n 0, 1) := by decide +kernel
theorem dX5_readsIdentifier_66 : decode cX5_readsIdentifier 66 = .ok (.invokevirtual 192, 3) := by decide +kernel
theorem dX5_readsIdentifier_69 : decode cX5_readsIdentifier 69 = .ok (.iadd, 1) := by decide +kernel
theorem dX5_readsIdentifier_70 : decode cX5_readsIdentifier 70 = .ok (.bipush 48, 2) := by decide +kernel
theorem dX5_readsIdentifier_72 : decode cX5_readsIdentifier 72 = .ok (.isub, 1) := by decide +kernel
theorem dX5_readsIdentifier_73 : decode cX5_readsIdentifier 73 = .ok (.sipush 800, 3) := by decide +kernel
theorem dX5_readsIdentifier_76 : decode cX5_readsIdentifier 76 = .ok (.if_icmp .ge 35, 3) := by decide +kernel
theorem dX5_readsIdentifier_79 : decode cX5_readsIdentifier 79 = .ok (.aload_n 0, 1) := by decide +kernel
theorem dX5_readsIdentifier_80 : decode cX5_readsIdentifier 80 = .ok (.bipush 10, 2) := by decide +kernel
theorem dX5_readsIdentifier_82 : decode cX5_readsIdentifier 82 = .ok (.aload_n 0, 1) := by decide +kernel
theorem dX5_readsIdentifier_83 : decode cX5_readsIdentifier 83 = .ok (.getfield 195, 3) := by decide +kernel
theorem dX5_readsIdentifier_86 : decode cX5_readsIdentifier 86 = .ok (.imul, 1) := by decide +kernel
theorem dX5_readsIdentifier_87 : decode cX5_readsIdentifier 87 = .ok (.aload_n 0, 1) := by decide +kernel
theorem dX5_readsIdentifier_88 : decode cX5_readsIdentifier 88 = .ok (.invokevirtual 192, 3) := by decide +kernel
theorem dX5_readsIdentifier_91 : decode cX5_readsIdentifier 91 = .ok (.iadd, 1) := by decide +kernel
theorem dX5_readsIdentifier_92 : decode cX5_readsIdentifier 92 = .ok (.bipush 48, 2) := by decide +kernel
theorem dX5_readsIdentifier_94 : decode cX5_readsIdentifier 94 = .ok (.isub, 1) := by decide +kernel
theorem dX5_readsIdentifier_95 : decode cX5_readsIdentifier 95 = .ok (.putfield 195, 3) := by decide +kernel
theorem dX5_readsIdentifier_98 : decode cX5_readsIdentifier 98 = .ok (.aload_n 0, 1) := by decide +kernel
theorem dX5_readsIdentifier_99 : decode cX5_readsIdentifier 99 = .ok (.dup, 1) := by decide +kernel
theorem dX5_readsIdentifier_100 : decode cX5_readsIdentifier 100 = .ok (.getfield 189, 3) := by decide +kernel
theorem dX5_readsIdentifier_103 : decode cX5_readsIdentifier 103 = .ok (.iconst 1, 1) := by decide +kernel
theorem dX5_readsIdentifier_104 : decode cX5_readsIdentifier 104 = .ok (.iadd, 1) := by decide +kernel
theorem dX5_readsIdentifier_105 : decode cX5_readsIdentifier 105 = .ok (.putfield 189, 3) := by decide +kernel
theorem dX5_readsIdentifier_108 : decode cX5_readsIdentifier 108 = .ok (.goto (-71), 3) := by decide +kernel
theorem dX5_readsIdentifier_111 : decode cX5_readsIdentifier 111 = .ok (.iconst 1, 1) := by decide +kernel
theorem dX5_readsIdentifier_112 : decode cX5_readsIdentifier 112 = .ok (.ireturn, 1) := by decide +kernel
theorem dX5_readsData_0 : decode cX5_readsData 0 = .ok (.aload_n 0, 1) := by decide +kernel
theorem dX5_readsData_1 : decode cX5_readsData 1 = .ok (.getfield 189, 3) := by decide +kernel
theorem dX5_readsData_4 : decode cX5_readsData 4 = .ok (.istore_n 1, 1) := by decide +kernel
theorem dX5_readsData_5 : decode cX5_readsData 5 = .ok (.aload_n 0, 1) := by decide +kernel
theorem dX5_readsData_6 : decode cX5_readsData 6 = .ok (.getfield 189, 3) := by decide +kernel
theorem dX5_readsData_9 : decode cX5_readsData 9 = .ok (.iload_n 1, 1) := by decide +kernel
theorem dX5_readsData_10 : decode cX5_readsData 10 = .ok (.isub, 1) := by decide +kernel
theorem dX5_readsData_11 : decode cX5_readsData 11 = .ok (.bipush 40, 2) := by decide +kernel
theorem dX5_readsData_13 : decode cX5_readsData 13 = .ok (.if_icmp .ge 30, 3) := by decide +kernel
theorem dX5_readsData_16 : decode cX5_readsData 16 = .ok (.aload_n 0, 1) := by decide +kernel
theorem dX5_readsData_17 : decode cX5_readsData 17 = .ok (.invokevirtual 192, 3) := by decide +kernel
theorem dX5_readsData_20 : decode cX5_readsData 20 = .ok (.bipush 97, 2) := by decide +kernel
theorem dX5_readsData_22 : decode cX5_readsData 22 = .ok (.bipush 122, 2) := by decide +kernel
theorem dX5_readsData_24 : decode cX5_readsData 24 = .ok (.invokestatic 78, 3) := by decide +kernel
theorem dX5_readsData_27 : decode cX5_readsData 27 = .ok (.ifCond .eq 16, 3) := by decide +kernel
theorem dX5_readsData_30 : decode cX5_readsData 30 = .ok (.aload_n 0, 1) := by decide +kernel
theorem dX5_readsData_31 : decode cX5_readsData 31 = .ok (.dup, 1) := by decide +kernel
theorem dX5_readsData_32 : decode cX5_readsData 32 = .ok (.getfield 189, 3) := by decide +kernel
theorem dX5_readsData_35 : decode cX5_readsData 35 = .ok (.iconst 1, 1) := by decide +kernel
theorem dX5_readsData_36 : decode cX5_readsData 36 = .ok (.iadd, 1) := by decide +kernel
theorem dX5_readsData_37 : decode cX5_readsData 37 = .ok (.putfield 189, 3) := by decide +kernel
theorem dX5_readsData_40 : decode cX5_readsData 40 = .ok (.goto (-35), 3) := by decide +kernel
theorem dX5_readsData_43 : decode cX5_readsData 43 = .ok (.aload_n 0, 1) := by decide +kernel
theorem dX5_readsData_44 : decode cX5_readsData 44 = .ok (.iload_n 1, 1) := by decide +kernel
theorem dX5_readsData_45 : decode cX5_readsData 45 = .ok (.aload_n 0, 1) := by decide +kernel
theorem dX5_readsData_46 : decode cX5_readsData 46 = .ok (.getfield 189, 3) := by decide +kernel
theorem dX5_readsData_49 : decode cX5_readsData 49 = .ok (.invokevirtual 153, 3) := by decide +kernel
theorem dX5_readsData_52 : decode cX5_readsData 52 = .ok (.aload_n 0, 1) := by decide +kernel
theorem dX5_readsData_53 : decode cX5_readsData 53 = .ok (.getfield 85, 3) := by decide +kernel
theorem dX5_readsData_56 : decode cX5_readsData 56 = .ok (.ifCond .le 7, 3) := by decide +kernel
theorem dX5_readsData_59 : decode cX5_readsData 59 = .ok (.iconst 1, 1) := by decide +kernel
theorem dX5_readsData_60 : decode cX5_readsData 60 = .ok (.goto 4, 3) := by decide +kernel
theorem dX5_readsData_63 : decode cX5_readsData 63 = .ok (.iconst 0, 1) := by decide +kernel
theorem dX5_readsData_64 : decode cX5_readsData 64 = .ok (.ireturn, 1) := by decide +kernel
theorem dX5_readsOrder_0 : decode cX5_readsOrder 0 = .ok (.aload_n 0, 1) := by decide +kernel
theorem dX5_readsOrder_1 : decode cX5_readsOrder 1 = .ok (.aload_n 0, 1) := by decide +kernel
theorem dX5_readsOrder_2 : decode cX5_readsOrder 2 = .ok (.invokevirtual 192, 3) := by decide +kernel
theorem dX5_readsOrder_5 : decode cX5_readsOrder 5 = .ok (.putfield 198, 3) := by decide +kernel
theorem dX5_readsOrder_8 : decode cX5_readsOrder 8 = .ok (.aload_n 0, 1) := by decide +kernel
theorem dX5_readsOrder_9 : decode cX5_readsOrder 9 = .ok (.bipush 43, 2) := by decide +kernel
theorem dX5_readsOrder_11 : decode cX5_readsOrder 11 = .ok (.invokevirtual 201, 3) := by decide +kernel
theorem dX5_readsOrder_14 : decode cX5_readsOrder 14 = .ok (.ifCond .eq 8, 3) := by decide +kernel
theorem dX5_readsOrder_17 : decode cX5_readsOrder 17 = .ok (.aload_n 0, 1) := by decide +kernel
theorem dX5_readsOrder_18 : decode cX5_readsOrder 18 = .ok (.invokevirtual 204, 3) := by decide +kernel
theorem dX5_readsOrder_21 : decode cX5_readsOrder 21 = .ok (.ireturn, 1) := by decide +kernel
theorem dX5_readsOrder_22 : decode cX5_readsOrder 22 = .ok (.aload_n 0, 1) := by decide +kernel
theorem dX5_readsOrder_23 : decode cX5_readsOrder 23 = .ok (.bipush 61, 2) := by decide +kernel
theorem dX5_readsOrder_25 : decode cX5_readsOrder 25 = .ok (.invokevirtual 201, 3) := by decide +kernel
theorem dX5_readsOrder_28 : decode cX5_readsOrder 28 = .ok (.ifCond .eq 32, 3) := by decide +kernel
theorem dX5_readsOrder_31 : decode cX5_readsOrder 31 = .ok (.aload_n 0, 1) := by decide +kernel
theorem dX5_readsOrder_32 : decode cX5_readsOrder 32 = .ok (.invokevirtual 208, 3) := by decide +kernel
theorem dX5_readsOrder_35 : decode cX5_readsOrder 35 = .ok (.ifCond .eq 23, 3) := by decide +kernel
theorem dX5_readsOrder_38 : decode cX5_readsOrder 38 = .ok (.aload_n 0, 1) := by decide +kernel
theorem dX5_readsOrder_39 : decode cX5_readsOrder 39 = .ok (.bipush 58, 2) := by decide +kernel
theorem dX5_readsOrder_41 : decode cX5_readsOrder 41 = .ok (.invokevirtual 201, 3) := by decide +kernel
theorem dX5_readsOrder_44 : decode cX5_readsOrder 44 = .ok (.ifCond .eq 14, 3) := by decide +kernel
theorem dX5_readsOrder_47 : decode cX5_readsOrder 47 = .ok (.aload_n 0, 1) := by decide +kernel
theorem dX5_readsOrder_48 : decode cX5_readsOrder 48 = .ok (.invokevirtual 204, 3) := by decide +kernel
theorem dX5_readsOrder_51 : decode cX5_readsOrder 51 = .ok (.ifCond .eq 7, 3) := by decide +kernel
theorem dX5_readsOrder_54 : decode cX5_readsOrder 54 = .ok (.iconst 1, 1) := by decide +kernel
theorem dX5_readsOrder_55 : decode cX5_readsOrder 55 = .ok (.goto 4, 3) := by decide +kernel
theorem dX5_readsOrder_58 : decode cX5_readsOrder 58 = .ok (.iconst 0, 1) := by decide +kernel
theorem dX5_readsOrder_59 : decode cX5_readsOrder 59 = .ok (.ireturn, 1) := by decide +kernel
theorem dX5_readsOrder_60 : decode cX5_readsOrder 60 = .ok (.aload_n 0, 1) := by decide +kernel
theorem dX5_readsOrder_61 : decode cX5_readsOrder 61 = .ok (.bipush 45, 2) := by decide +kernel
theorem dX5_readsOrder_63 : decode cX5_readsOrder 63 = .ok (.invokevirtual 201, 3) := by decide +kernel
theorem dX5_readsOrder_66 : decode cX5_readsOrder 66 = .ok (.ifCond .eq 8, 3) := by decide +kernel
theorem dX5_readsOrder_69 : decode cX5_readsOrder 69 = .ok (.aload_n 0, 1) := by decide +kernel
theorem dX5_readsOrder_70 : decode cX5_readsOrder 70 = .ok (.invokevirtual 208, 3) := by decide +kernel
theorem dX5_readsOrder_73 : decode cX5_readsOrder 73 = .ok (.ireturn, 1) := by decide +kernel
theorem dX5_readsOrder_74 : decode cX5_readsOrder 74 = .ok (.aload_n 0, 1) := by decide +kernel
theorem dX5_readsOrder_75 : decode cX5_readsOrder 75 = .ok (.bipush 94, 2) := by decide +kernel
theorem dX5_readsOrder_77 : decode cX5_readsOrder 77 = .ok (.invokevirtual 201, 3) := by decide +kernel
theorem dX5_readsOrder_80 : decode cX5_readsOrder 80 = .ok (.ireturn, 1) := by decide +kernel
theorem dX5_isComplete_0 : decode cX5_isComplete 0 = .ok (.aload_n 0, 1) := by decide +kernel
theorem dX5_isComplete_1 : decode cX5_isComplete 1 = .ok (.iconst 0, 1) := by decide +kernel
theorem dX5_isComplete_2 : decode cX5_isComplete 2 = .ok (.putfield 189, 3) := by decide +kernel
theorem dX5_isComplete_5 : decode cX5_isComplete 5 = .ok (.aload_n 0, 1) := by decide +kernel
theorem dX5_isComplete_6 : decode cX5_isComplete 6 = .ok (.invokevirtual 211, 3) := by decide +kernel
theorem dX5_isComplete_9 : decode cX5_isComplete 9 = .ok (.ifCond .eq 27, 3) := by decide +kernel
theorem dX5_isComplete_12 : decode cX5_isComplete 12 = .ok (.aload_n 0, 1) := by decide +kernel
theorem dX5_isComplete_13 : decode cX5_isComplete 13 = .ok (.getfield 189, 3) := by decide +kernel
theorem dX5_isComplete_16 : decode cX5_isComplete 16 = .ok (.aload_n 0, 1) := by decide +kernel
theorem dX5_isComplete_17 : decode cX5_isComplete 17 = .ok (.getfield 143, 3) := by decide +kernel
theorem dX5_isComplete_20 : decode cX5_isComplete 20 = .ok (.if_icmp .ne 5, 3) := by decide +kernel
theorem dX5_isComplete_23 : decode cX5_isComplete 23 = .ok (.iconst 1, 1) := by decide +kernel
theorem dX5_isComplete_24 : decode cX5_isComplete 24 = .ok (.ireturn, 1) := by decide +kernel
theorem dX5_isComplete_25 : decode cX5_isComplete 25 = .ok (.aload_n 0, 1) := by decide +kernel
theorem dX5_isComplete_26 : decode cX5_isComplete 26 = .ok (.bipush 59, 2) := by decide +kernel
theorem dX5_isComplete_28 : decode cX5_isComplete 28 = .ok (.invokevirtual 201, 3) := by decide +kernel
theorem dX5_isComplete_31 : decode cX5_isComplete 31 = .ok (.ifCond .ne (-26), 3) := by decide +kernel
theorem dX5_isComplete_34 : decode cX5_isComplete 34 = .ok (.iconst 0, 1) := by decide +kernel
theorem dX5_isComplete_35 : decode cX5_isComplete 35 = .ok (.ireturn, 1) := by decide +kernel
theorem dX5_isComplete_36 : decode cX5_isComplete 36 = .ok (.iconst 0, 1) := by decide +kernel
theorem dX5_isComplete_37 : decode cX5_isComplete 37 = .ok (.ireturn, 1) := by decide +kernel
theorem dX5_firstError_0 : decode cX5_firstError 0 = .ok (.aload_n 0, 1) := by decide +kernel
theorem dX5_firstError_1 : decode cX5_firstError 1 = .ok (.iconst 0, 1) := by decide +kernel
theorem dX5_firstError_2 : decode cX5_firstError 2 = .ok (.putfield 22, 3) := by decide +kernel
theorem dX5_firstError_5 : decode cX5_firstError 5 = .ok (.aload_n 0, 1) := by decide +kernel
theorem dX5_firstError_6 : decode cX5_firstError 6 = .ok (.invokevirtual 214, 3) := by decide +kernel
theorem dX5_firstError_9 : decode cX5_firstError 9 = .ok (.pop, 1) := by decide +kernel
theorem dX5_firstError_10 : decode cX5_firstError 10 = .ok (.aload_n 0, 1) := by decide +kernel
theorem dX5_firstError_11 : decode cX5_firstError 11 = .ok (.getfield 189, 3) := by decide +kernel
theorem dX5_firstError_14 : decode cX5_firstError 14 = .ok (.ireturn, 1) := by decide +kernel
theorem dX5_can_0 : decode cX5_can 0 = .ok (.aload_n 0, 1) := by decide +kernel
theorem dX5_can_1 : decode cX5_can 1 = .ok (.getfield 198, 3) := by decide +kernel
theorem dX5_can_4 : decode cX5_can 4 = .ok (.bipush 43, 2) := by decide +kernel
theorem dX5_can_6 : decode cX5_can 6 = .ok (.if_icmp .ne 26, 3) := by decide +kernel
theorem dX5_can_9 : decode cX5_can 9 = .ok (.aload_n 0, 1) := by decide +kernel
theorem dX5_can_10 : decode cX5_can 10 = .ok (.aload_n 0, 1) := by decide +kernel
theorem dX5_can_11 : decode cX5_can 11 = .ok (.getfield 85, 3) := by decide +kernel
theorem dX5_can_14 : decode cX5_can 14 = .ok (.invokestatic 91, 3) := by decide +kernel
theorem dX5_can_17 : decode cX5_can 17 = .ok (.iconst (-1), 1) := by decide +kernel
theorem dX5_can_18 : decode cX5_can 18 = .ok (.iconst (-1), 1) := by decide +kernel
theorem dX5_can_19 : decode cX5_can 19 = .ok (.invokevirtual 94, 3) := by decide +kernel
theorem dX5_can_22 : decode cX5_can 22 = .ok (.iconst (-1), 1) := by decide +kernel
theorem dX5_can_23 : decode cX5_can 23 = .ok (.if_icmp .eq 7, 3) := by decide +kernel
theorem dX5_can_26 : decode cX5_can 26 = .ok (.iconst 1, 1) := by decide +kernel
theorem dX5_can_27 : decode cX5_can 27 = .ok (.goto 4, 3) := by decide +kernel
theorem dX5_can_30 : decode cX5_can 30 = .ok (.iconst 0, 1) := by decide +kernel
theorem dX5_can_31 : decode cX5_can 31 = .ok (.ireturn, 1) := by decide +kernel
theorem dX5_can_32 : decode cX5_can 32 = .ok (.aload_n 0, 1) := by decide +kernel
theorem dX5_can_33 : decode cX5_can 33 = .ok (.getfield 198, 3) := by decide +kernel
theorem dX5_can_36 : decode cX5_can 36 = .ok (.bipush 94, 2) := by decide +kernel
theorem dX5_can_38 : decode cX5_can 38 = .ok (.if_icmp .eq 39, 3) := by decide +kernel
theorem dX5_can_41 : decode cX5_can 41 = .ok (.aload_n 0, 1) := by decide +kernel
theorem dX5_can_42 : decode cX5_can 42 = .ok (.aload_n 0, 1) := by decide +kernel
theorem dX5_can_43 : decode cX5_can 43 = .ok (.getfield 195, 3) := by decide +kernel
theorem dX5_can_46 : decode cX5_can 46 = .ok (.invokevirtual 160, 3) := by decide +kernel
theorem dX5_can_49 : decode cX5_can 49 = .ok (.ifCond .eq 32, 3) := by decide +kernel
theorem dX5_can_52 : decode cX5_can 52 = .ok (.aload_n 0, 1) := by decide +kernel
theorem dX5_can_53 : decode cX5_can 53 = .ok (.getfield 198, 3) := by decide +kernel
theorem dX5_can_56 : decode cX5_can 56 = .ok (.bipush 45, 2) := by decide +kernel
theorem dX5_can_58 : decode cX5_can 58 = .ok (.if_icmp .eq 19, 3) := by decide +kernel
theorem dX5_can_61 : decode cX5_can 61 = .ok (.aload_n 0, 1) := by decide +kernel
theorem dX5_can_62 : decode cX5_can 62 = .ok (.aload_n 0, 1) := by decide +kernel
theorem dX5_can_63 : decode cX5_can 63 = .ok (.getfield 195, 3) := by decide +kernel
theorem dX5_can_66 : decode cX5_can 66 = .ok (.aload_n 0, 1) := by decide +kernel
theorem dX5_can_67 : decode cX5_can 67 = .ok (.getfield 85, 3) := by decide +kernel
theorem dX5_can_70 : decode cX5_can 70 = .ok (.invokevirtual 119, 3) := by decide +kernel
theorem dX5_can_73 : decode cX5_can 73 = .ok (.iconst (-1), 1) := by decide +kernel
theorem dX5_can_74 : decode cX5_can 74 = .ok (.if_icmp .eq 7, 3) := by decide +kernel
theorem dX5_can_77 : decode cX5_can 77 = .ok (.iconst 1, 1) := by decide +kernel
theorem dX5_can_78 : decode cX5_can 78 = .ok (.goto 4, 3) := by decide +kernel
theorem dX5_can_81 : decode cX5_can 81 = .ok (.iconst 0, 1) := by decide +kernel
theorem dX5_can_82 : decode cX5_can 82 = .ok (.ireturn, 1) := by decide +kernel
theorem dX5_does_0 : decode cX5_does 0 = .ok (.aload_n 0, 1) := by decide +kernel
theorem dX5_does_1 : decode cX5_does 1 = .ok (.getfield 198, 3) := by decide +kernel
theorem dX5_does_4 : decode cX5_does 4 = .ok (.lookupswitch 59 #[(43, 36), (45, 50), (61, 41)], 36) := by decide +kernel
theorem dX5_does_40 : decode cX5_does 40 = .ok (.aload_n 0, 1) := by decide +kernel
theorem dX5_does_41 : decode cX5_does 41 = .ok (.invokevirtual 156, 3) := by decide +kernel
theorem dX5_does_44 : decode cX5_does 44 = .ok (.ireturn, 1) := by decide +kernel
theorem dX5_does_45 : decode cX5_does 45 = .ok (.aload_n 0, 1) := by decide +kernel
theorem dX5_does_46 : decode cX5_does 46 = .ok (.aload_n 0, 1) := by decide +kernel
theorem dX5_does_47 : decode cX5_does 47 = .ok (.getfield 195, 3) := by decide +kernel
theorem dX5_does_50 : decode cX5_does 50 = .ok (.invokevirtual 163, 3) := by decide +kernel
theorem dX5_does_53 : decode cX5_does 53 = .ok (.ireturn, 1) := by decide +kernel
theorem dX5_does_54 : decode cX5_does 54 = .ok (.aload_n 0, 1) := by decide +kernel
theorem dX5_does_55 : decode cX5_does 55 = .ok (.aload_n 0, 1) := by decide +kernel
theorem dX5_does_56 : decode cX5_does 56 = .ok (.getfield 195, 3) := by decide +kernel
theorem dX5_does_59 : decode cX5_does 59 = .ok (.invokevirtual 166, 3) := by decide +kernel
theorem dX5_does_62 : decode cX5_does 62 = .ok (.ireturn, 1) := by decide +kernel
theorem dX5_does_63 : decode cX5_does 63 = .ok (.aload_n 0, 1) := by decide +kernel
theorem dX5_does_64 : decode cX5_does 64 = .ok (.invokevirtual 169, 3) := by decide +kernel
theorem dX5_does_67 : decode cX5_does 67 = .ok (.ireturn, 1) := by decide +kernel
theorem dX5_run_0 : decode cX5_run 0 = .ok (.aload_n 0, 1) := by decide +kernel
theorem dX5_run_1 : decode cX5_run 1 = .ok (.aload_n 0, 1) := by decide +kernel
theorem dX5_run_2 : decode cX5_run 2 = .ok (.invokevirtual 214, 3) := by decide +kernel
theorem dX5_run_5 : decode cX5_run 5 = .ok (.ifCond .eq 7, 3) := by decide +kernel
theorem dX5_run_8 : decode cX5_run 8 = .ok (.iconst 0, 1) := by decide +kernel
theorem dX5_run_9 : decode cX5_run 9 = .ok (.goto 4, 3) := by decide +kernel
theorem dX5_run_12 : decode cX5_run 12 = .ok (.iconst 1, 1) := by decide +kernel
theorem dX5_run_13 : decode cX5_run 13 = .ok (.invokevirtual 146, 3) := by decide +kernel
theorem dX5_run_16 : decode cX5_run 16 = .ok (.ifCond .ne 5, 3) := by decide +kernel
theorem dX5_run_19 : decode cX5_run 19 = .ok (.iconst 0, 1) := by decide +kernel
theorem dX5_run_20 : decode cX5_run 20 = .ok (.ireturn, 1) := by decide +kernel
theorem dX5_run_21 : decode cX5_run 21 = .ok (.aload_n 0, 1) := by decide +kernel
theorem dX5_run_22 : decode cX5_run 22 = .ok (.invokevirtual 150, 3) := by decide +kernel
theorem dX5_run_25 : decode cX5_run 25 = .ok (.aload_n 0, 1) := by decide +kernel
theorem dX5_run_26 : decode cX5_run 26 = .ok (.iconst 0, 1) := by decide +kernel
theorem dX5_run_27 : decode cX5_run 27 = .ok (.putfield 189, 3) := by decide +kernel
theorem dX5_run_30 : decode cX5_run 30 = .ok (.iconst 0, 1) := by decide +kernel
theorem dX5_run_31 : decode cX5_run 31 = .ok (.istore_n 1, 1) := by decide +kernel
theorem dX5_run_32 : decode cX5_run 32 = .ok (.aload_n 0, 1) := by decide +kernel
theorem dX5_run_33 : decode cX5_run 33 = .ok (.invokevirtual 211, 3) := by decide +kernel
theorem dX5_run_36 : decode cX5_run 36 = .ok (.ifCond .eq 35, 3) := by decide +kernel
theorem dX5_run_39 : decode cX5_run 39 = .ok (.aload_n 0, 1) := by decide +kernel
theorem dX5_run_40 : decode cX5_run 40 = .ok (.invokevirtual 217, 3) := by decide +kernel
theorem dX5_run_43 : decode cX5_run 43 = .ok (.ifCond .eq 28, 3) := by decide +kernel
theorem dX5_run_46 : decode cX5_run 46 = .ok (.iload_n 1, 1) := by decide +kernel
theorem dX5_run_47 : decode cX5_run 47 = .ok (.aload_n 0, 1) := by decide +kernel
theorem dX5_run_48 : decode cX5_run 48 = .ok (.invokevirtual 220, 3) := by decide +kernel
theorem dX5_run_51 : decode cX5_run 51 = .ok (.ifCond .lt 7, 3) := by decide +kernel
theorem dX5_run_54 : decode cX5_run 54 = .ok (.iconst 1, 1) := by decide +kernel
theorem dX5_run_55 : decode cX5_run 55 = .ok (.goto 4, 3) := by decide +kernel
theorem dX5_run_58 : decode cX5_run 58 = .ok (.iconst 0, 1) := by decide +kernel
theorem dX5_run_59 : decode cX5_run 59 = .ok (.iadd, 1) := by decide +kernel
theorem dX5_run_60 : decode cX5_run 60 = .ok (.istore_n 1, 1) := by decide +kernel
theorem dX5_run_61 : decode cX5_run 61 = .ok (.aload_n 0, 1) := by decide +kernel
theorem dX5_run_62 : decode cX5_run 62 = .ok (.bipush 59, 2) := by decide +kernel
theorem dX5_run_64 : decode cX5_run 64 = .ok (.invokevirtual 201, 3) := by decide +kernel
theorem dX5_run_67 : decode cX5_run 67 = .ok (.pop, 1) := by decide +kernel
theorem dX5_run_68 : decode cX5_run 68 = .ok (.goto (-36), 3) := by decide +kernel
theorem dX5_run_71 : decode cX5_run 71 = .ok (.aload_n 0, 1) := by decide +kernel
theorem dX5_run_72 : decode cX5_run 72 = .ok (.iconst 0, 1) := by decide +kernel
theorem dX5_run_73 : decode cX5_run 73 = .ok (.putfield 143, 3) := by decide +kernel
theorem dX5_run_76 : decode cX5_run 76 = .ok (.iload_n 1, 1) := by decide +kernel
theorem dX5_run_77 : decode cX5_run 77 = .ok (.ireturn, 1) := by decide +kernel
theorem dX5_undo_0 : decode cX5_undo 0 = .ok (.aload_n 0, 1) := by decide +kernel
theorem dX5_undo_1 : decode cX5_undo 1 = .ok (.aload_n 0, 1) := by decide +kernel
theorem dX5_undo_2 : decode cX5_undo 2 = .ok (.getfield 137, 3) := by decide +kernel
theorem dX5_undo_5 : decode cX5_undo 5 = .ok (.ifCond .le 7, 3) := by decide +kernel
theorem dX5_undo_8 : decode cX5_undo 8 = .ok (.iconst 0, 1) := by decide +kernel
theorem dX5_undo_9 : decode cX5_undo 9 = .ok (.goto 4, 3) := by decide +kernel
theorem dX5_undo_12 : decode cX5_undo 12 = .ok (.iconst 1, 1) := by decide +kernel
theorem dX5_undo_13 : decode cX5_undo 13 = .ok (.invokevirtual 146, 3) := by decide +kernel
theorem dX5_undo_16 : decode cX5_undo 16 = .ok (.ifCond .ne 5, 3) := by decide +kernel
theorem dX5_undo_19 : decode cX5_undo 19 = .ok (.iconst 0, 1) := by decide +kernel
theorem dX5_undo_20 : decode cX5_undo 20 = .ok (.ireturn, 1) := by decide +kernel
theorem dX5_undo_21 : decode cX5_undo 21 = .ok (.aload_n 0, 1) := by decide +kernel
theorem dX5_undo_22 : decode cX5_undo 22 = .ok (.aload_n 0, 1) := by decide +kernel
theorem dX5_undo_23 : decode cX5_undo 23 = .ok (.getfield 137, 3) := by decide +kernel
theorem dX5_undo_26 : decode cX5_undo 26 = .ok (.iconst 0, 1) := by decide +kernel
theorem dX5_undo_27 : decode cX5_undo 27 = .ok (.invokevirtual 140, 3) := by decide +kernel
theorem dX5_undo_30 : decode cX5_undo 30 = .ok (.aload_n 0, 1) := by decide +kernel
theorem dX5_undo_31 : decode cX5_undo 31 = .ok (.dup, 1) := by decide +kernel
theorem dX5_undo_32 : decode cX5_undo 32 = .ok (.getfield 137, 3) := by decide +kernel
theorem dX5_undo_35 : decode cX5_undo 35 = .ok (.iconst 1, 1) := by decide +kernel
theorem dX5_undo_36 : decode cX5_undo 36 = .ok (.isub, 1) := by decide +kernel
theorem dX5_undo_37 : decode cX5_undo 37 = .ok (.putfield 137, 3) := by decide +kernel
theorem dX5_undo_40 : decode cX5_undo 40 = .ok (.aload_n 0, 1) := by decide +kernel
theorem dX5_undo_41 : decode cX5_undo 41 = .ok (.getfield 137, 3) := by decide +kernel
theorem dX5_undo_44 : decode cX5_undo 44 = .ok (.ireturn, 1) := by decide +kernel
theorem dX5_savedStates_0 : decode cX5_savedStates 0 = .ok (.aload_n 0, 1) := by decide +kernel
theorem dX5_savedStates_1 : decode cX5_savedStates 1 = .ok (.iconst 0, 1) := by decide +kernel
theorem dX5_savedStates_2 : decode cX5_savedStates 2 = .ok (.putfield 22, 3) := by decide +kernel
theorem dX5_savedStates_5 : decode cX5_savedStates 5 = .ok (.aload_n 0, 1) := by decide +kernel
theorem dX5_savedStates_6 : decode cX5_savedStates 6 = .ok (.getfield 137, 3) := by decide +kernel
theorem dX5_savedStates_9 : decode cX5_savedStates 9 = .ok (.ireturn, 1) := by decide +kernel
theorem dX5_mix_0 : decode cX5_mix 0 = .ok (.aload_n 0, 1) := by decide +kernel
theorem dX5_mix_1 : decode cX5_mix 1 = .ok (.ldc2_w 223, 3) := by decide +kernel
theorem dX5_mix_4 : decode cX5_mix 4 = .ok (.aload_n 0, 1) := by decide +kernel
theorem dX5_mix_5 : decode cX5_mix 5 = .ok (.getfield 225, 3) := by decide +kernel
theorem dX5_mix_8 : decode cX5_mix 8 = .ok (.lmul, 1) := by decide +kernel
theorem dX5_mix_9 : decode cX5_mix 9 = .ok (.lload_n 1, 1) := by decide +kernel
theorem dX5_mix_10 : decode cX5_mix 10 = .ok (.ladd, 1) := by decide +kernel
theorem dX5_mix_11 : decode cX5_mix 11 = .ok (.putfield 225, 3) := by decide +kernel
theorem dX5_mix_14 : decode cX5_mix 14 = .ok (.return_, 1) := by decide +kernel
theorem dX5_bits_0 : decode cX5_bits 0 = .ok (.fload_n 0, 1) := by decide +kernel
theorem dX5_bits_1 : decode cX5_bits 1 = .ok (.fconst 0, 1) := by decide +kernel
theorem dX5_bits_2 : decode cX5_bits 2 = .ok (.fcmp .l, 1) := by decide +kernel
theorem dX5_bits_3 : decode cX5_bits 3 = .ok (.ifCond .ne 5, 3) := by decide +kernel
theorem dX5_bits_6 : decode cX5_bits 6 = .ok (.iconst 0, 1) := by decide +kernel
theorem dX5_bits_7 : decode cX5_bits 7 = .ok (.ireturn, 1) := by decide +kernel
theorem dX5_bits_8 : decode cX5_bits 8 = .ok (.fload_n 0, 1) := by decide +kernel
theorem dX5_bits_9 : decode cX5_bits 9 = .ok (.fstore_n 1, 1) := by decide +kernel
theorem dX5_bits_10 : decode cX5_bits 10 = .ok (.bipush 127, 2) := by decide +kernel
theorem dX5_bits_12 : decode cX5_bits 12 = .ok (.istore_n 2, 1) := by decide +kernel
theorem dX5_bits_13 : decode cX5_bits 13 = .ok (.fload_n 1, 1) := by decide +kernel
theorem dX5_bits_14 : decode cX5_bits 14 = .ok (.fconst 1, 1) := by decide +kernel
theorem dX5_bits_15 : decode cX5_bits 15 = .ok (.fcmp .g, 1) := by decide +kernel
theorem dX5_bits_16 : decode cX5_bits 16 = .ok (.ifCond .ge 13, 3) := by decide +kernel
theorem dX5_bits_19 : decode cX5_bits 19 = .ok (.fload_n 1, 1) := by decide +kernel
theorem dX5_bits_20 : decode cX5_bits 20 = .ok (.fconst 2, 1) := by decide +kernel
theorem dX5_bits_21 : decode cX5_bits 21 = .ok (.fmul, 1) := by decide +kernel
theorem dX5_bits_22 : decode cX5_bits 22 = .ok (.fstore_n 1, 1) := by decide +kernel
theorem dX5_bits_23 : decode cX5_bits 23 = .ok (.iinc 2 (-1), 3) := by decide +kernel
theorem dX5_bits_26 : decode cX5_bits 26 = .ok (.goto (-13), 3) := by decide +kernel
theorem dX5_bits_29 : decode cX5_bits 29 = .ok (.iload_n 2, 1) := by decide +kernel
theorem dX5_bits_30 : decode cX5_bits 30 = .ok (.ldc 229, 2) := by decide +kernel
theorem dX5_bits_32 : decode cX5_bits 32 = .ok (.imul, 1) := by decide +kernel
theorem dX5_bits_33 : decode cX5_bits 33 = .ok (.fload_n 1, 1) := by decide +kernel
theorem dX5_bits_34 : decode cX5_bits 34 = .ok (.fconst 1, 1) := by decide +kernel
theorem dX5_bits_35 : decode cX5_bits 35 = .ok (.fsub, 1) := by decide +kernel
theorem dX5_bits_36 : decode cX5_bits 36 = .ok (.ldc 230, 2) := by decide +kernel
theorem dX5_bits_38 : decode cX5_bits 38 = .ok (.fmul, 1) := by decide +kernel
theorem dX5_bits_39 : decode cX5_bits 39 = .ok (.f2i, 1) := by decide +kernel
theorem dX5_bits_40 : decode cX5_bits 40 = .ok (.iadd, 1) := by decide +kernel
theorem dX5_bits_41 : decode cX5_bits 41 = .ok (.ireturn, 1) := by decide +kernel
theorem dX5_digest_0 : decode cX5_digest 0 = .ok (.aload_n 0, 1) := by decide +kernel
theorem dX5_digest_1 : decode cX5_digest 1 = .ok (.iconst 0, 1) := by decide +kernel
theorem dX5_digest_2 : decode cX5_digest 2 = .ok (.putfield 22, 3) := by decide +kernel
theorem dX5_digest_5 : decode cX5_digest 5 = .ok (.aload_n 0, 1) := by decide +kernel
theorem dX5_digest_6 : decode cX5_digest 6 = .ok (.ldc2_w 231, 3) := by decide +kernel
theorem dX5_digest_9 : decode cX5_digest 9 = .ok (.putfield 225, 3) := by decide +kernel
theorem dX5_digest_12 : decode cX5_digest 12 = .ok (.aload_n 0, 1) := by decide +kernel
theorem dX5_digest_13 : decode cX5_digest 13 = .ok (.aload_n 0, 1) := by decide +kernel
theorem dX5_digest_14 : decode cX5_digest 14 = .ok (.getfield 7, 3) := by decide +kernel
theorem dX5_digest_17 : decode cX5_digest 17 = .ok (.iconst 0, 1) := by decide +kernel
theorem dX5_digest_18 : decode cX5_digest 18 = .ok (.iaload, 1) := by decide +kernel
theorem dX5_digest_19 : decode cX5_digest 19 = .ok (.i2l, 1) := by decide +kernel
theorem dX5_digest_20 : decode cX5_digest 20 = .ok (.invokevirtual 233, 3) := by decide +kernel
theorem dX5_digest_23 : decode cX5_digest 23 = .ok (.aload_n 0, 1) := by decide +kernel
theorem dX5_digest_24 : decode cX5_digest 24 = .ok (.aload_n 0, 1) := by decide +kernel
theorem dX5_digest_25 : decode cX5_digest 25 = .ok (.iconst 1, 1) := by decide +kernel
theorem dX5_digest_26 : decode cX5_digest 26 = .ok (.iconst 2, 1) := by decide +kernel
theorem dX5_digest_27 : decode cX5_digest 27 = .ok (.invokevirtual 175, 3) := by decide +kernel
theorem dX5_digest_30 : decode cX5_digest 30 = .ok (.i2l, 1) := by decide +kernel
theorem dX5_digest_31 : decode cX5_digest 31 = .ok (.invokevirtual 233, 3) := by decide +kernel
theorem dX5_digest_34 : decode cX5_digest 34 = .ok (.aload_n 0, 1) := by decide +kernel
theorem dX5_digest_35 : decode cX5_digest 35 = .ok (.aload_n 0, 1) := by decide +kernel
theorem dX5_digest_36 : decode cX5_digest 36 = .ok (.iconst 2, 1) := by decide +kernel
theorem dX5_digest_37 : decode cX5_digest 37 = .ok (.iconst 2, 1) := by decide +kernel
theorem dX5_digest_38 : decode cX5_digest 38 = .ok (.invokevirtual 175, 3) := by decide +kernel
theorem dX5_digest_41 : decode cX5_digest 41 = .ok (.i2l, 1) := by decide +kernel
theorem dX5_digest_42 : decode cX5_digest 42 = .ok (.invokevirtual 233, 3) := by decide +kernel
theorem dX5_digest_45 : decode cX5_digest 45 = .ok (.aload_n 0, 1) := by decide +kernel
theorem dX5_digest_46 : decode cX5_digest 46 = .ok (.aload_n 0, 1) := by decide +kernel
theorem dX5_digest_47 : decode cX5_digest 47 = .ok (.getfield 7, 3) := by decide +kernel
theorem dX5_digest_50 : decode cX5_digest 50 = .ok (.iconst 1, 1) := by decide +kernel
theorem dX5_digest_51 : decode cX5_digest 51 = .ok (.iaload, 1) := by decide +kernel
theorem dX5_digest_52 : decode cX5_digest 52 = .ok (.i2l, 1) := by decide +kernel
theorem dX5_digest_53 : decode cX5_digest 53 = .ok (.invokevirtual 233, 3) := by decide +kernel
theorem dX5_digest_56 : decode cX5_digest 56 = .ok (.aload_n 0, 1) := by decide +kernel
theorem dX5_digest_57 : decode cX5_digest 57 = .ok (.aload_n 0, 1) := by decide +kernel
theorem dX5_digest_58 : decode cX5_digest 58 = .ok (.getfield 7, 3) := by decide +kernel
theorem dX5_digest_61 : decode cX5_digest 61 = .ok (.iconst 2, 1) := by decide +kernel
theorem dX5_digest_62 : decode cX5_digest 62 = .ok (.iaload, 1) := by decide +kernel
theorem dX5_digest_63 : decode cX5_digest 63 = .ok (.i2l, 1) := by decide +kernel
theorem dX5_digest_64 : decode cX5_digest 64 = .ok (.invokevirtual 233, 3) := by decide +kernel
theorem dX5_digest_67 : decode cX5_digest 67 = .ok (.aload_n 0, 1) := by decide +kernel
theorem dX5_digest_68 : decode cX5_digest 68 = .ok (.aload_n 0, 1) := by decide +kernel
theorem dX5_digest_69 : decode cX5_digest 69 = .ok (.getfield 7, 3) := by decide +kernel
theorem dX5_digest_72 : decode cX5_digest 72 = .ok (.iconst 3, 1) := by decide +kernel
theorem dX5_digest_73 : decode cX5_digest 73 = .ok (.iaload, 1) := by decide +kernel
theorem dX5_digest_74 : decode cX5_digest 74 = .ok (.i2l, 1) := by decide +kernel
theorem dX5_digest_75 : decode cX5_digest 75 = .ok (.invokevirtual 233, 3) := by decide +kernel
theorem dX5_digest_78 : decode cX5_digest 78 = .ok (.iconst 0, 1) := by decide +kernel
theorem dX5_digest_79 : decode cX5_digest 79 = .ok (.istore_n 1, 1) := by decide +kernel
theorem dX5_digest_80 : decode cX5_digest 80 = .ok (.iload_n 1, 1) := by decide +kernel
theorem dX5_digest_81 : decode cX5_digest 81 = .ok (.aload_n 0, 1) := by decide +kernel
theorem dX5_digest_82 : decode cX5_digest 82 = .ok (.getfield 7, 3) := by decide +kernel
theorem dX5_digest_85 : decode cX5_digest 85 = .ok (.iconst 0, 1) := by decide +kernel
theorem dX5_digest_86 : decode cX5_digest 86 = .ok (.iaload, 1) := by decide +kernel
theorem dX5_digest_87 : decode cX5_digest 87 = .ok (.if_icmp .ge 55, 3) := by decide +kernel
theorem dX5_digest_90 : decode cX5_digest 90 = .ok (.aload_n 0, 1) := by decide +kernel
theorem dX5_digest_91 : decode cX5_digest 91 = .ok (.aload_n 0, 1) := by decide +kernel
theorem dX5_digest_92 : decode cX5_digest 92 = .ok (.iload_n 1, 1) := by decide +kernel
theorem dX5_digest_93 : decode cX5_digest 93 = .ok (.invokevirtual 47, 3) := by decide +kernel
theorem dX5_digest_96 : decode cX5_digest 96 = .ok (.i2l, 1) := by decide +kernel
theorem dX5_digest_97 : decode cX5_digest 97 = .ok (.invokevirtual 233, 3) := by decide +kernel
theorem dX5_digest_100 : decode cX5_digest 100 = .ok (.aload_n 0, 1) := by decide +kernel
theorem dX5_digest_101 : decode cX5_digest 101 = .ok (.aload_n 0, 1) := by decide +kernel
theorem dX5_digest_102 : decode cX5_digest 102 = .ok (.iload_n 1, 1) := by decide +kernel
theorem dX5_digest_103 : decode cX5_digest 103 = .ok (.invokevirtual 62, 3) := by decide +kernel
theorem dX5_digest_106 : decode cX5_digest 106 = .ok (.i2l, 1) := by decide +kernel
theorem dX5_digest_107 : decode cX5_digest 107 = .ok (.invokevirtual 233, 3) := by decide +kernel
theorem dX5_digest_110 : decode cX5_digest 110 = .ok (.iconst 0, 1) := by decide +kernel
theorem dX5_digest_111 : decode cX5_digest 111 = .ok (.istore_n 2, 1) := by decide +kernel
theorem dX5_digest_112 : decode cX5_digest 112 = .ok (.iload_n 2, 1) := by decide +kernel
theorem dX5_digest_113 : decode cX5_digest 113 = .ok (.sipush 128, 3) := by decide +kernel
theorem dX5_digest_116 : decode cX5_digest 116 = .ok (.if_icmp .ge 20, 3) := by decide +kernel
theorem dX5_digest_119 : decode cX5_digest 119 = .ok (.aload_n 0, 1) := by decide +kernel
theorem dX5_digest_120 : decode cX5_digest 120 = .ok (.aload_n 0, 1) := by decide +kernel
theorem dX5_digest_121 : decode cX5_digest 121 = .ok (.iload_n 1, 1) := by decide +kernel
theorem dX5_digest_122 : decode cX5_digest 122 = .ok (.iload_n 2, 1) := by decide +kernel
theorem dX5_digest_123 : decode cX5_digest 123 = .ok (.invokevirtual 178, 3) := by decide +kernel
theorem dX5_digest_126 : decode cX5_digest 126 = .ok (.i2l, 1) := by decide +kernel
theorem dX5_digest_127 : decode cX5_digest 127 = .ok (.invokevirtual 233, 3) := by decide +kernel
theorem dX5_digest_130 : decode cX5_digest 130 = .ok (.iinc 2 1, 3) := by decide +kernel
theorem dX5_digest_133 : decode cX5_digest 133 = .ok (.goto (-21), 3) := by decide +kernel
theorem dX5_digest_136 : decode cX5_digest 136 = .ok (.iinc 1 1, 3) := by decide +kernel
theorem dX5_digest_139 : decode cX5_digest 139 = .ok (.goto (-59), 3) := by decide +kernel
theorem dX5_digest_142 : decode cX5_digest 142 = .ok (.aload_n 0, 1) := by decide +kernel
theorem dX5_digest_143 : decode cX5_digest 143 = .ok (.aload_n 0, 1) := by decide +kernel
theorem dX5_digest_144 : decode cX5_digest 144 = .ok (.invokevirtual 181, 3) := by decide +kernel
theorem dX5_digest_147 : decode cX5_digest 147 = .ok (.d2f, 1) := by decide +kernel
theorem dX5_digest_148 : decode cX5_digest 148 = .ok (.invokestatic 237, 3) := by decide +kernel
theorem dX5_digest_151 : decode cX5_digest 151 = .ok (.i2l, 1) := by decide +kernel
theorem dX5_digest_152 : decode cX5_digest 152 = .ok (.invokevirtual 233, 3) := by decide +kernel
theorem dX5_digest_155 : decode cX5_digest 155 = .ok (.aload_n 0, 1) := by decide +kernel
theorem dX5_digest_156 : decode cX5_digest 156 = .ok (.getfield 225, 3) := by decide +kernel
theorem dX5_digest_159 : decode cX5_digest 159 = .ok (.lreturn, 1) := by decide +kernel
theorem dJ9_max_7cf53_0 : decode cJ9_max_7cf53 0 = .ok (.iload_n 0, 1) := by decide +kernel
theorem dJ9_max_7cf53_1 : decode cJ9_max_7cf53 1 = .ok (.iload_n 1, 1) := by decide +kernel
theorem dJ9_max_7cf53_2 : decode cJ9_max_7cf53 2 = .ok (.if_icmp .lt 7, 3) := by decide +kernel
theorem dJ9_max_7cf53_5 : decode cJ9_max_7cf53 5 = .ok (.iload_n 0, 1) := by decide +kernel
theorem dJ9_max_7cf53_6 : decode cJ9_max_7cf53 6 = .ok (.goto 4, 3) := by decide +kernel
theorem dJ9_max_7cf53_9 : decode cJ9_max_7cf53 9 = .ok (.iload_n 1, 1) := by decide +kernel
theorem dJ9_max_7cf53_10 : decode cJ9_max_7cf53 10 = .ok (.ireturn, 1) := by decide +kernel
theorem dJ9_min_7cf53_0 : decode cJ9_min_7cf53 0 = .ok (.iload_n 0, 1) := by decide +kernel
theorem dJ9_min_7cf53_1 : decode cJ9_min_7cf53 1 = .ok (.iload_n 1, 1) := by decide +kernel
theorem dJ9_min_7cf53_2 : decode cJ9_min_7cf53 2 = .ok (.if_icmp .gt 7, 3) := by decide +kernel
theorem dJ9_min_7cf53_5 : decode cJ9_min_7cf53 5 = .ok (.iload_n 0, 1) := by decide +kernel
theorem dJ9_min_7cf53_6 : decode cJ9_min_7cf53 6 = .ok (.goto 4, 3) := by decide +kernel
theorem dJ9_min_7cf53_9 : decode cJ9_min_7cf53 9 = .ok (.iload_n 1, 1) := by decide +kernel
theorem dJ9_min_7cf53_10 : decode cJ9_min_7cf53 10 = .ok (.ireturn, 1) := by decide +kernel
theorem dL_append_0 : decode cL_append 0 = .ok (.aload_n 2, 1) := by decide +kernel
theorem dL_append_1 : decode cL_append 1 = .ok (.iconst 0, 1) := by decide +kernel
theorem dL_append_2 : decode cL_append 2 = .ok (.aload_n 0, 1) := by decide +kernel
theorem dL_append_3 : decode cL_append 3 = .ok (.iload_n 1, 1) := by decide +kernel
theorem dL_append_4 : decode cL_append 4 = .ok (.invokevirtual 7, 3) := by decide +kernel
theorem dL_append_7 : decode cL_append 7 = .ok (.i2l, 1) := by decide +kernel
theorem dL_append_8 : decode cL_append 8 = .ok (.lastore, 1) := by decide +kernel
theorem dL_append_9 : decode cL_append 9 = .ok (.goto 9, 3) := by decide +kernel
theorem dL_append_12 : decode cL_append 12 = .ok (.astore_n 3, 1) := by decide +kernel
theorem dL_append_13 : decode cL_append 13 = .ok (.iconst 1, 1) := by decide +kernel
theorem dL_append_14 : decode cL_append 14 = .ok (.ireturn, 1) := by decide +kernel
theorem dL_append_15 : decode cL_append 15 = .ok (.astore_n 3, 1) := by decide +kernel
theorem dL_append_16 : decode cL_append 16 = .ok (.iconst 2, 1) := by decide +kernel
theorem dL_append_17 : decode cL_append 17 = .ok (.ireturn, 1) := by decide +kernel
theorem dL_append_18 : decode cL_append 18 = .ok (.iconst 0, 1) := by decide +kernel
theorem dL_append_19 : decode cL_append 19 = .ok (.ireturn, 1) := by decide +kernel
theorem dL_fill_0 : decode cL_fill 0 = .ok (.aload_n 3, 1) := by decide +kernel
theorem dL_fill_1 : decode cL_fill 1 = .ok (.iconst 0, 1) := by decide +kernel
theorem dL_fill_2 : decode cL_fill 2 = .ok (.aload_n 0, 1) := by decide +kernel
theorem dL_fill_3 : decode cL_fill 3 = .ok (.iload_n 1, 1) := by decide +kernel
theorem dL_fill_4 : decode cL_fill 4 = .ok (.iload_n 2, 1) := by decide +kernel
theorem dL_fill_5 : decode cL_fill 5 = .ok (.invokevirtual 17, 3) := by decide +kernel
theorem dL_fill_8 : decode cL_fill 8 = .ok (.i2l, 1) := by decide +kernel
theorem dL_fill_9 : decode cL_fill 9 = .ok (.lastore, 1) := by decide +kernel
theorem dL_fill_10 : decode cL_fill 10 = .ok (.goto 11, 3) := by decide +kernel
theorem dL_fill_13 : decode cL_fill 13 = .ok (.astore 4, 2) := by decide +kernel
theorem dL_fill_15 : decode cL_fill 15 = .ok (.iconst 1, 1) := by decide +kernel
theorem dL_fill_16 : decode cL_fill 16 = .ok (.ireturn, 1) := by decide +kernel
theorem dL_fill_17 : decode cL_fill 17 = .ok (.astore 4, 2) := by decide +kernel
theorem dL_fill_19 : decode cL_fill 19 = .ok (.iconst 2, 1) := by decide +kernel
theorem dL_fill_20 : decode cL_fill 20 = .ok (.ireturn, 1) := by decide +kernel
theorem dL_fill_21 : decode cL_fill 21 = .ok (.iconst 0, 1) := by decide +kernel
theorem dL_fill_22 : decode cL_fill 22 = .ok (.ireturn, 1) := by decide +kernel
theorem dL_insert_0 : decode cL_insert 0 = .ok (.aload_n 1, 1) := by decide +kernel
theorem dL_insert_1 : decode cL_insert 1 = .ok (.iconst 0, 1) := by decide +kernel
theorem dL_insert_2 : decode cL_insert 2 = .ok (.aload_n 0, 1) := by decide +kernel
theorem dL_insert_3 : decode cL_insert 3 = .ok (.invokevirtual 21, 3) := by decide +kernel
theorem dL_insert_6 : decode cL_insert 6 = .ok (.i2l, 1) := by decide +kernel
theorem dL_insert_7 : decode cL_insert 7 = .ok (.lastore, 1) := by decide +kernel
theorem dL_insert_8 : decode cL_insert 8 = .ok (.goto 6, 3) := by decide +kernel
theorem dL_insert_11 : decode cL_insert 11 = .ok (.astore_n 2, 1) := by decide +kernel
theorem dL_insert_12 : decode cL_insert 12 = .ok (.iconst 1, 1) := by decide +kernel
theorem dL_insert_13 : decode cL_insert 13 = .ok (.ireturn, 1) := by decide +kernel
theorem dL_insert_14 : decode cL_insert 14 = .ok (.iconst 0, 1) := by decide +kernel
theorem dL_insert_15 : decode cL_insert 15 = .ok (.ireturn, 1) := by decide +kernel
theorem dL_update_0 : decode cL_update 0 = .ok (.aload_n 2, 1) := by decide +kernel
theorem dL_update_1 : decode cL_update 1 = .ok (.iconst 0, 1) := by decide +kernel
theorem dL_update_2 : decode cL_update 2 = .ok (.aload_n 0, 1) := by decide +kernel
theorem dL_update_3 : decode cL_update 3 = .ok (.iload_n 1, 1) := by decide +kernel
theorem dL_update_4 : decode cL_update 4 = .ok (.invokevirtual 25, 3) := by decide +kernel
theorem dL_update_7 : decode cL_update 7 = .ok (.i2l, 1) := by decide +kernel
theorem dL_update_8 : decode cL_update 8 = .ok (.lastore, 1) := by decide +kernel
theorem dL_update_9 : decode cL_update 9 = .ok (.goto 9, 3) := by decide +kernel
theorem dL_update_12 : decode cL_update 12 = .ok (.astore_n 3, 1) := by decide +kernel
theorem dL_update_13 : decode cL_update 13 = .ok (.iconst 1, 1) := by decide +kernel
theorem dL_update_14 : decode cL_update 14 = .ok (.ireturn, 1) := by decide +kernel
theorem dL_update_15 : decode cL_update 15 = .ok (.astore_n 3, 1) := by decide +kernel
theorem dL_update_16 : decode cL_update 16 = .ok (.iconst 2, 1) := by decide +kernel
theorem dL_update_17 : decode cL_update 17 = .ok (.ireturn, 1) := by decide +kernel
theorem dL_update_18 : decode cL_update 18 = .ok (.iconst 0, 1) := by decide +kernel
theorem dL_update_19 : decode cL_update 19 = .ok (.ireturn, 1) := by decide +kernel
theorem dL_delete_0 : decode cL_delete 0 = .ok (.aload_n 2, 1) := by decide +kernel
theorem dL_delete_1 : decode cL_delete 1 = .ok (.iconst 0, 1) := by decide +kernel
theorem dL_delete_2 : decode cL_delete 2 = .ok (.aload_n 0, 1) := by decide +kernel
theorem dL_delete_3 : decode cL_delete 3 = .ok (.iload_n 1, 1) := by decide +kernel
theorem dL_delete_4 : decode cL_delete 4 = .ok (.invokevirtual 30, 3) := by decide +kernel
theorem dL_delete_7 : decode cL_delete 7 = .ok (.i2l, 1) := by decide +kernel
theorem dL_delete_8 : decode cL_delete 8 = .ok (.lastore, 1) := by decide +kernel
theorem dL_delete_9 : decode cL_delete 9 = .ok (.goto 6, 3) := by decide +kernel
theorem dL_delete_12 : decode cL_delete 12 = .ok (.astore_n 3, 1) := by decide +kernel
theorem dL_delete_13 : decode cL_delete 13 = .ok (.iconst 1, 1) := by decide +kernel
theorem dL_delete_14 : decode cL_delete 14 = .ok (.ireturn, 1) := by decide +kernel
theorem dL_delete_15 : decode cL_delete 15 = .ok (.iconst 0, 1) := by decide +kernel
theorem dL_delete_16 : decode cL_delete 16 = .ok (.ireturn, 1) := by decide +kernel
theorem dL_compact_0 : decode cL_compact 0 = .ok (.aload_n 2, 1) := by decide +kernel
theorem dL_compact_1 : decode cL_compact 1 = .ok (.iconst 0, 1) := by decide +kernel
theorem dL_compact_2 : decode cL_compact 2 = .ok (.aload_n 0, 1) := by decide +kernel
theorem dL_compact_3 : decode cL_compact 3 = .ok (.iload_n 1, 1) := by decide +kernel
theorem dL_compact_4 : decode cL_compact 4 = .ok (.invokevirtual 33, 3) := by decide +kernel
theorem dL_compact_7 : decode cL_compact 7 = .ok (.i2l, 1) := by decide +kernel
theorem dL_compact_8 : decode cL_compact 8 = .ok (.lastore, 1) := by decide +kernel
theorem dL_compact_9 : decode cL_compact 9 = .ok (.goto 6, 3) := by decide +kernel
theorem dL_compact_12 : decode cL_compact 12 = .ok (.astore_n 3, 1) := by decide +kernel
theorem dL_compact_13 : decode cL_compact 13 = .ok (.iconst 1, 1) := by decide +kernel
theorem dL_compact_14 : decode cL_compact 14 = .ok (.ireturn, 1) := by decide +kernel
theorem dL_compact_15 : decode cL_compact 15 = .ok (.iconst 0, 1) := by decide +kernel
theorem dL_compact_16 : decode cL_compact 16 = .ok (.ireturn, 1) := by decide +kernel
theorem dL_length_0 : decode cL_length 0 = .ok (.aload_n 2, 1) := by decide +kernel
theorem dL_length_1 : decode cL_length 1 = .ok (.iconst 0, 1) := by decide +kernel
theorem dL_length_2 : decode cL_length 2 = .ok (.aload_n 0, 1) := by decide +kernel
theorem dL_length_3 : decode cL_length 3 = .ok (.iload_n 1, 1) := by decide +kernel
theorem dL_length_4 : decode cL_length 4 = .ok (.invokevirtual 36, 3) := by decide +kernel
theorem dL_length_7 : decode cL_length 7 = .ok (.i2l, 1) := by decide +kernel
theorem dL_length_8 : decode cL_length 8 = .ok (.lastore, 1) := by decide +kernel
theorem dL_length_9 : decode cL_length 9 = .ok (.goto 6, 3) := by decide +kernel
theorem dL_length_12 : decode cL_length 12 = .ok (.astore_n 3, 1) := by decide +kernel
theorem dL_length_13 : decode cL_length 13 = .ok (.iconst 1, 1) := by decide +kernel
theorem dL_length_14 : decode cL_length 14 = .ok (.ireturn, 1) := by decide +kernel
theorem dL_length_15 : decode cL_length 15 = .ok (.iconst 0, 1) := by decide +kernel
theorem dL_length_16 : decode cL_length 16 = .ok (.ireturn, 1) := by decide +kernel
theorem dL_byteOf_0 : decode cL_byteOf 0 = .ok (.aload_n 3, 1) := by decide +kernel
theorem dL_byteOf_1 : decode cL_byteOf 1 = .ok (.iconst 0, 1) := by decide +kernel
theorem dL_byteOf_2 : decode cL_byteOf 2 = .ok (.aload_n 0, 1) := by decide +kernel
theorem dL_byteOf_3 : decode cL_byteOf 3 = .ok (.iload_n 1, 1) := by decide +kernel
theorem dL_byteOf_4 : decode cL_byteOf 4 = .ok (.iload_n 2, 1) := by decide +kernel
theorem dL_byteOf_5 : decode cL_byteOf 5 = .ok (.invokevirtual 39, 3) := by decide +kernel
theorem dL_byteOf_8 : decode cL_byteOf 8 = .ok (.i2l, 1) := by decide +kernel
theorem dL_byteOf_9 : decode cL_byteOf 9 = .ok (.lastore, 1) := by decide +kernel
theorem dL_byteOf_10 : decode cL_byteOf 10 = .ok (.goto 7, 3) := by decide +kernel
theorem dL_byteOf_13 : decode cL_byteOf 13 = .ok (.astore 4, 2) := by decide +kernel
theorem dL_byteOf_15 : decode cL_byteOf 15 = .ok (.iconst 1, 1) := by decide +kernel
theorem dL_byteOf_16 : decode cL_byteOf 16 = .ok (.ireturn, 1) := by decide +kernel
theorem dL_byteOf_17 : decode cL_byteOf 17 = .ok (.iconst 0, 1) := by decide +kernel
theorem dL_byteOf_18 : decode cL_byteOf 18 = .ok (.ireturn, 1) := by decide +kernel
theorem dL_placeOf_0 : decode cL_placeOf 0 = .ok (.aload_n 2, 1) := by decide +kernel
theorem dL_placeOf_1 : decode cL_placeOf 1 = .ok (.iconst 0, 1) := by decide +kernel
theorem dL_placeOf_2 : decode cL_placeOf 2 = .ok (.aload_n 0, 1) := by decide +kernel
theorem dL_placeOf_3 : decode cL_placeOf 3 = .ok (.iload_n 1, 1) := by decide +kernel
theorem dL_placeOf_4 : decode cL_placeOf 4 = .ok (.invokevirtual 42, 3) := by decide +kernel
theorem dL_placeOf_7 : decode cL_placeOf 7 = .ok (.i2l, 1) := by decide +kernel
theorem dL_placeOf_8 : decode cL_placeOf 8 = .ok (.lastore, 1) := by decide +kernel
theorem dL_placeOf_9 : decode cL_placeOf 9 = .ok (.goto 6, 3) := by decide +kernel
theorem dL_placeOf_12 : decode cL_placeOf 12 = .ok (.astore_n 3, 1) := by decide +kernel
theorem dL_placeOf_13 : decode cL_placeOf 13 = .ok (.iconst 1, 1) := by decide +kernel
theorem dL_placeOf_14 : decode cL_placeOf 14 = .ok (.ireturn, 1) := by decide +kernel
theorem dL_placeOf_15 : decode cL_placeOf 15 = .ok (.iconst 0, 1) := by decide +kernel
theorem dL_placeOf_16 : decode cL_placeOf 16 = .ok (.ireturn, 1) := by decide +kernel
theorem dL_pageByte_0 : decode cL_pageByte 0 = .ok (.aload_n 3, 1) := by decide +kernel
theorem dL_pageByte_1 : decode cL_pageByte 1 = .ok (.iconst 0, 1) := by decide +kernel
theorem dL_pageByte_2 : decode cL_pageByte 2 = .ok (.aload_n 0, 1) := by decide +kernel
theorem dL_pageByte_3 : decode cL_pageByte 3 = .ok (.iload_n 1, 1) := by decide +kernel
theorem dL_pageByte_4 : decode cL_pageByte 4 = .ok (.iload_n 2, 1) := by decide +kernel
theorem dL_pageByte_5 : decode cL_pageByte 5 = .ok (.invokevirtual 45, 3) := by decide +kernel
theorem dL_pageByte_8 : decode cL_pageByte 8 = .ok (.i2l, 1) := by decide +kernel
theorem dL_pageByte_9 : decode cL_pageByte 9 = .ok (.lastore, 1) := by decide +kernel
theorem dL_pageByte_10 : decode cL_pageByte 10 = .ok (.goto 7, 3) := by decide +kernel
theorem dL_pageByte_13 : decode cL_pageByte 13 = .ok (.astore 4, 2) := by decide +kernel
theorem dL_pageByte_15 : decode cL_pageByte 15 = .ok (.iconst 1, 1) := by decide +kernel
theorem dL_pageByte_16 : decode cL_pageByte 16 = .ok (.ireturn, 1) := by decide +kernel
theorem dL_pageByte_17 : decode cL_pageByte 17 = .ok (.iconst 0, 1) := by decide +kernel
theorem dL_pageByte_18 : decode cL_pageByte 18 = .ok (.ireturn, 1) := by decide +kernel
theorem dL_free_0 : decode cL_free 0 = .ok (.aload_n 2, 1) := by decide +kernel
theorem dL_free_1 : decode cL_free 1 = .ok (.iconst 0, 1) := by decide +kernel
theorem dL_free_2 : decode cL_free 2 = .ok (.aload_n 0, 1) := by decide +kernel
theorem dL_free_3 : decode cL_free 3 = .ok (.iload_n 1, 1) := by decide +kernel
theorem dL_free_4 : decode cL_free 4 = .ok (.invokevirtual 48, 3) := by decide +kernel
theorem dL_free_7 : decode cL_free 7 = .ok (.i2l, 1) := by decide +kernel
theorem dL_free_8 : decode cL_free 8 = .ok (.lastore, 1) := by decide +kernel
theorem dL_free_9 : decode cL_free 9 = .ok (.goto 6, 3) := by decide +kernel
theorem dL_free_12 : decode cL_free 12 = .ok (.astore_n 3, 1) := by decide +kernel
theorem dL_free_13 : decode cL_free 13 = .ok (.iconst 1, 1) := by decide +kernel
theorem dL_free_14 : decode cL_free 14 = .ok (.ireturn, 1) := by decide +kernel
theorem dL_free_15 : decode cL_free 15 = .ok (.iconst 0, 1) := by decide +kernel
theorem dL_free_16 : decode cL_free 16 = .ok (.ireturn, 1) := by decide +kernel
theorem dL_gap_0 : decode cL_gap 0 = .ok (.aload_n 2, 1) := by decide +kernel
theorem dL_gap_1 : decode cL_gap 1 = .ok (.iconst 0, 1) := by decide +kernel
theorem dL_gap_2 : decode cL_gap 2 = .ok (.aload_n 0, 1) := by decide +kernel
theorem dL_gap_3 : decode cL_gap 3 = .ok (.iload_n 1, 1) := by decide +kernel
theorem dL_gap_4 : decode cL_gap 4 = .ok (.invokevirtual 51, 3) := by decide +kernel
theorem dL_gap_7 : decode cL_gap 7 = .ok (.i2l, 1) := by decide +kernel
theorem dL_gap_8 : decode cL_gap 8 = .ok (.lastore, 1) := by decide +kernel
theorem dL_gap_9 : decode cL_gap 9 = .ok (.goto 6, 3) := by decide +kernel
theorem dL_gap_12 : decode cL_gap 12 = .ok (.astore_n 3, 1) := by decide +kernel
theorem dL_gap_13 : decode cL_gap 13 = .ok (.iconst 1, 1) := by decide +kernel
theorem dL_gap_14 : decode cL_gap 14 = .ok (.ireturn, 1) := by decide +kernel
theorem dL_gap_15 : decode cL_gap 15 = .ok (.iconst 0, 1) := by decide +kernel
theorem dL_gap_16 : decode cL_gap 16 = .ok (.ireturn, 1) := by decide +kernel
theorem dL_ifInserted_0 : decode cL_ifInserted 0 = .ok (.aload_n 2, 1) := by decide +kernel
theorem dL_ifInserted_1 : decode cL_ifInserted 1 = .ok (.iconst 0, 1) := by decide +kernel
theorem dL_ifInserted_2 : decode cL_ifInserted 2 = .ok (.aload_n 0, 1) := by decide +kernel
theorem dL_ifInserted_3 : decode cL_ifInserted 3 = .ok (.iload_n 1, 1) := by decide +kernel
theorem dL_ifInserted_4 : decode cL_ifInserted 4 = .ok (.invokevirtual 54, 3) := by decide +kernel
theorem dL_ifInserted_7 : decode cL_ifInserted 7 = .ok (.i2l, 1) := by decide +kernel
theorem dL_ifInserted_8 : decode cL_ifInserted 8 = .ok (.lastore, 1) := by decide +kernel
theorem dL_ifInserted_9 : decode cL_ifInserted 9 = .ok (.goto 6, 3) := by decide +kernel
theorem dL_ifInserted_12 : decode cL_ifInserted 12 = .ok (.astore_n 3, 1) := by decide +kernel
theorem dL_ifInserted_13 : decode cL_ifInserted 13 = .ok (.iconst 1, 1) := by decide +kernel
theorem dL_ifInserted_14 : decode cL_ifInserted 14 = .ok (.ireturn, 1) := by decide +kernel
theorem dL_ifInserted_15 : decode cL_ifInserted 15 = .ok (.iconst 0, 1) := by decide +kernel
theorem dL_ifInserted_16 : decode cL_ifInserted 16 = .ok (.ireturn, 1) := by decide +kernel
theorem dL_ifUpdated_0 : decode cL_ifUpdated 0 = .ok (.aload_n 3, 1) := by decide +kernel
theorem dL_ifUpdated_1 : decode cL_ifUpdated 1 = .ok (.iconst 0, 1) := by decide +kernel
theorem dL_ifUpdated_2 : decode cL_ifUpdated 2 = .ok (.aload_n 0, 1) := by decide +kernel
theorem dL_ifUpdated_3 : decode cL_ifUpdated 3 = .ok (.iload_n 1, 1) := by decide +kernel
theorem dL_ifUpdated_4 : decode cL_ifUpdated 4 = .ok (.iload_n 2, 1) := by decide +kernel
theorem dL_ifUpdated_5 : decode cL_ifUpdated 5 = .ok (.invokevirtual 57, 3) := by decide +kernel
theorem dL_ifUpdated_8 : decode cL_ifUpdated 8 = .ok (.i2l, 1) := by decide +kernel
theorem dL_ifUpdated_9 : decode cL_ifUpdated 9 = .ok (.lastore, 1) := by decide +kernel
theorem dL_ifUpdated_10 : decode cL_ifUpdated 10 = .ok (.goto 11, 3) := by decide +kernel
theorem dL_ifUpdated_13 : decode cL_ifUpdated 13 = .ok (.astore 4, 2) := by decide +kernel
theorem dL_ifUpdated_15 : decode cL_ifUpdated 15 = .ok (.iconst 1, 1) := by decide +kernel
theorem dL_ifUpdated_16 : decode cL_ifUpdated 16 = .ok (.ireturn, 1) := by decide +kernel
theorem dL_ifUpdated_17 : decode cL_ifUpdated 17 = .ok (.astore 4, 2) := by decide +kernel
theorem dL_ifUpdated_19 : decode cL_ifUpdated 19 = .ok (.iconst 2, 1) := by decide +kernel
theorem dL_ifUpdated_20 : decode cL_ifUpdated 20 = .ok (.ireturn, 1) := by decide +kernel
theorem dL_ifUpdated_21 : decode cL_ifUpdated 21 = .ok (.iconst 0, 1) := by decide +kernel
theorem dL_ifUpdated_22 : decode cL_ifUpdated 22 = .ok (.ireturn, 1) := by decide +kernel
theorem dL_greatestAtHome_0 : decode cL_greatestAtHome 0 = .ok (.aload_n 2, 1) := by decide +kernel
theorem dL_greatestAtHome_1 : decode cL_greatestAtHome 1 = .ok (.iconst 0, 1) := by decide +kernel
theorem dL_greatestAtHome_2 : decode cL_greatestAtHome 2 = .ok (.aload_n 0, 1) := by decide +kernel
theorem dL_greatestAtHome_3 : decode cL_greatestAtHome 3 = .ok (.iload_n 1, 1) := by decide +kernel
theorem dL_greatestAtHome_4 : decode cL_greatestAtHome 4 = .ok (.invokevirtual 60, 3) := by decide +kernel
theorem dL_greatestAtHome_7 : decode cL_greatestAtHome 7 = .ok (.i2l, 1) := by decide +kernel
theorem dL_greatestAtHome_8 : decode cL_greatestAtHome 8 = .ok (.lastore, 1) := by decide +kernel
theorem dL_greatestAtHome_9 : decode cL_greatestAtHome 9 = .ok (.goto 6, 3) := by decide +kernel
theorem dL_greatestAtHome_12 : decode cL_greatestAtHome 12 = .ok (.astore_n 3, 1) := by decide +kernel
theorem dL_greatestAtHome_13 : decode cL_greatestAtHome 13 = .ok (.iconst 1, 1) := by decide +kernel
theorem dL_greatestAtHome_14 : decode cL_greatestAtHome 14 = .ok (.ireturn, 1) := by decide +kernel
theorem dL_greatestAtHome_15 : decode cL_greatestAtHome 15 = .ok (.iconst 0, 1) := by decide +kernel
theorem dL_greatestAtHome_16 : decode cL_greatestAtHome 16 = .ok (.ireturn, 1) := by decide +kernel
theorem dL_capacity_0 : decode cL_capacity 0 = .ok (.aload_n 2, 1) := by decide +kernel
theorem dL_capacity_1 : decode cL_capacity 1 = .ok (.iconst 0, 1) := by decide +kernel
theorem dL_capacity_2 : decode cL_capacity 2 = .ok (.aload_n 0, 1) := by decide +kernel
theorem dL_capacity_3 : decode cL_capacity 3 = .ok (.iload_n 1, 1) := by decide +kernel
theorem dL_capacity_4 : decode cL_capacity 4 = .ok (.invokevirtual 63, 3) := by decide +kernel
theorem dL_capacity_7 : decode cL_capacity 7 = .ok (.i2l, 1) := by decide +kernel
theorem dL_capacity_8 : decode cL_capacity 8 = .ok (.lastore, 1) := by decide +kernel
theorem dL_capacity_9 : decode cL_capacity 9 = .ok (.goto 6, 3) := by decide +kernel
theorem dL_capacity_12 : decode cL_capacity 12 = .ok (.astore_n 3, 1) := by decide +kernel
theorem dL_capacity_13 : decode cL_capacity 13 = .ok (.iconst 1, 1) := by decide +kernel
theorem dL_capacity_14 : decode cL_capacity 14 = .ok (.ireturn, 1) := by decide +kernel
theorem dL_capacity_15 : decode cL_capacity 15 = .ok (.iconst 0, 1) := by decide +kernel
theorem dL_capacity_16 : decode cL_capacity 16 = .ok (.ireturn, 1) := by decide +kernel
theorem dL_run_0 : decode cL_run 0 = .ok (.aload_n 1, 1) := by decide +kernel
theorem dL_run_1 : decode cL_run 1 = .ok (.iconst 0, 1) := by decide +kernel
theorem dL_run_2 : decode cL_run 2 = .ok (.aload_n 0, 1) := by decide +kernel
theorem dL_run_3 : decode cL_run 3 = .ok (.invokevirtual 66, 3) := by decide +kernel
theorem dL_run_6 : decode cL_run 6 = .ok (.i2l, 1) := by decide +kernel
theorem dL_run_7 : decode cL_run 7 = .ok (.lastore, 1) := by decide +kernel
theorem dL_run_8 : decode cL_run 8 = .ok (.goto 6, 3) := by decide +kernel
theorem dL_run_11 : decode cL_run 11 = .ok (.astore_n 2, 1) := by decide +kernel
theorem dL_run_12 : decode cL_run 12 = .ok (.iconst 1, 1) := by decide +kernel
theorem dL_run_13 : decode cL_run 13 = .ok (.ireturn, 1) := by decide +kernel
theorem dL_run_14 : decode cL_run 14 = .ok (.iconst 0, 1) := by decide +kernel
theorem dL_run_15 : decode cL_run 15 = .ok (.ireturn, 1) := by decide +kernel
theorem dL_undo_0 : decode cL_undo 0 = .ok (.aload_n 1, 1) := by decide +kernel
theorem dL_undo_1 : decode cL_undo 1 = .ok (.iconst 0, 1) := by decide +kernel
theorem dL_undo_2 : decode cL_undo 2 = .ok (.aload_n 0, 1) := by decide +kernel
theorem dL_undo_3 : decode cL_undo 3 = .ok (.invokevirtual 69, 3) := by decide +kernel
theorem dL_undo_6 : decode cL_undo 6 = .ok (.i2l, 1) := by decide +kernel
theorem dL_undo_7 : decode cL_undo 7 = .ok (.lastore, 1) := by decide +kernel
theorem dL_undo_8 : decode cL_undo 8 = .ok (.goto 6, 3) := by decide +kernel
theorem dL_undo_11 : decode cL_undo 11 = .ok (.astore_n 2, 1) := by decide +kernel
theorem dL_undo_12 : decode cL_undo 12 = .ok (.iconst 1, 1) := by decide +kernel
theorem dL_undo_13 : decode cL_undo 13 = .ok (.ireturn, 1) := by decide +kernel
theorem dL_undo_14 : decode cL_undo 14 = .ok (.iconst 0, 1) := by decide +kernel
theorem dL_undo_15 : decode cL_undo 15 = .ok (.ireturn, 1) := by decide +kernel
theorem dL_law_0 : decode cL_law 0 = .ok (.new 8, 3) := by decide +kernel
theorem dL_law_3 : decode cL_law 3 = .ok (.dup, 1) := by decide +kernel
theorem dL_law_4 : decode cL_law 4 = .ok (.invokespecial 72, 3) := by decide +kernel
theorem dL_law_7 : decode cL_law 7 = .ok (.astore_n 1, 1) := by decide +kernel
theorem dL_law_8 : decode cL_law 8 = .ok (.new 73, 3) := by decide +kernel
theorem dL_law_11 : decode cL_law 11 = .ok (.dup, 1) := by decide +kernel
theorem dL_law_12 : decode cL_law 12 = .ok (.invokespecial 75, 3) := by decide +kernel
theorem dL_law_15 : decode cL_law 15 = .ok (.astore_n 2, 1) := by decide +kernel
theorem dL_law_16 : decode cL_law 16 = .ok (.iconst 1, 1) := by decide +kernel
theorem dL_law_17 : decode cL_law 17 = .ok (.newarray .long, 2) := by decide +kernel
theorem dL_law_19 : decode cL_law 19 = .ok (.astore_n 3, 1) := by decide +kernel
theorem dL_law_20 : decode cL_law 20 = .ok (.iconst 0, 1) := by decide +kernel
theorem dL_law_21 : decode cL_law 21 = .ok (.istore 4, 2) := by decide +kernel
theorem dL_law_23 : decode cL_law 23 = .ok (.iload 4, 2) := by decide +kernel
theorem dL_law_25 : decode cL_law 25 = .ok (.aload_n 0, 1) := by decide +kernel
theorem dL_law_26 : decode cL_law 26 = .ok (.arraylength, 1) := by decide +kernel
theorem dL_law_27 : decode cL_law 27 = .ok (.iconst 3, 1) := by decide +kernel
theorem dL_law_28 : decode cL_law 28 = .ok (.isub, 1) := by decide +kernel
theorem dL_law_29 : decode cL_law 29 = .ok (.if_icmp .gt 1470, 3) := by decide +kernel
theorem dL_law_32 : decode cL_law 32 = .ok (.aload_n 0, 1) := by decide +kernel
theorem dL_law_33 : decode cL_law 33 = .ok (.iload 4, 2) := by decide +kernel
theorem dL_law_35 : decode cL_law 35 = .ok (.iaload, 1) := by decide +kernel
theorem dL_law_36 : decode cL_law 36 = .ok (.bipush 63, 2) := by decide +kernel
theorem dL_law_38 : decode cL_law 38 = .ok (.iand, 1) := by decide +kernel
theorem dL_law_39 : decode cL_law 39 = .ok (.tableswitch 1454 0 33 #[149, 205, 273, 286, 330, 386, 442, 455, 511, 524, 549, 605, 673, 729, 754, 779, 792, 860, 916, 972, 997, 1010, 1023, 1036, 1049, 1090, 1146, 1214, 1270, 1326, 1339, 1383, 1427, 1440], 149) := by decide +kernel
theorem dL_law_188 : decode cL_law 188 = .ok (.aload_n 1, 1) := by decide +kernel
theorem dL_law_189 : decode cL_law 189 = .ok (.aload_n 0, 1) := by decide +kernel
theorem dL_law_190 : decode cL_law 190 = .ok (.iload 4, 2) := by decide +kernel
theorem dL_law_192 : decode cL_law 192 = .ok (.iconst 1, 1) := by decide +kernel
theorem dL_law_193 : decode cL_law 193 = .ok (.iadd, 1) := by decide +kernel
theorem dL_law_194 : decode cL_law 194 = .ok (.iaload, 1) := by decide +kernel
theorem dL_law_195 : decode cL_law 195 = .ok (.aload_n 3, 1) := by decide +kernel
theorem dL_law_196 : decode cL_law 196 = .ok (.invokestatic 76, 3) := by decide +kernel
theorem dL_law_199 : decode cL_law 199 = .ok (.istore 5, 2) := by decide +kernel
theorem dL_law_201 : decode cL_law 201 = .ok (.aload_n 2, 1) := by decide +kernel
theorem dL_law_202 : decode cL_law 202 = .ok (.aload_n 0, 1) := by decide +kernel
theorem dL_law_203 : decode cL_law 203 = .ok (.iload 4, 2) := by decide +kernel
theorem dL_law_205 : decode cL_law 205 = .ok (.iconst 1, 1) := by decide +kernel
theorem dL_law_206 : decode cL_law 206 = .ok (.iadd, 1) := by decide +kernel
theorem dL_law_207 : decode cL_law 207 = .ok (.iaload, 1) := by decide +kernel
theorem dL_law_208 : decode cL_law 208 = .ok (.invokevirtual 81, 3) := by decide +kernel
theorem dL_law_211 : decode cL_law 211 = .ok (.istore 6, 2) := by decide +kernel
theorem dL_law_213 : decode cL_law 213 = .ok (.aload_n 2, 1) := by decide +kernel
theorem dL_law_214 : decode cL_law 214 = .ok (.invokevirtual 82, 3) := by decide +kernel
theorem dL_law_217 : decode cL_law 217 = .ok (.iload 5, 2) := by decide +kernel
theorem dL_law_219 : decode cL_law 219 = .ok (.if_icmp .eq 5, 3) := by decide +kernel
theorem dL_law_222 : decode cL_law 222 = .ok (.iconst 0, 1) := by decide +kernel
theorem dL_law_223 : decode cL_law 223 = .ok (.ireturn, 1) := by decide +kernel
theorem dL_law_224 : decode cL_law 224 = .ok (.iload 5, 2) := by decide +kernel
theorem dL_law_226 : decode cL_law 226 = .ok (.ifCond .ne 15, 3) := by decide +kernel
theorem dL_law_229 : decode cL_law 229 = .ok (.aload_n 3, 1) := by decide +kernel
theorem dL_law_230 : decode cL_law 230 = .ok (.iconst 0, 1) := by decide +kernel
theorem dL_law_231 : decode cL_law 231 = .ok (.laload, 1) := by decide +kernel
theorem dL_law_232 : decode cL_law 232 = .ok (.iload 6, 2) := by decide +kernel
theorem dL_law_234 : decode cL_law 234 = .ok (.i2l, 1) := by decide +kernel
theorem dL_law_235 : decode cL_law 235 = .ok (.lcmp, 1) := by decide +kernel
theorem dL_law_236 : decode cL_law 236 = .ok (.ifCond .eq 5, 3) := by decide +kernel
theorem dL_law_239 : decode cL_law 239 = .ok (.iconst 0, 1) := by decide +kernel
theorem dL_law_240 : decode cL_law 240 = .ok (.ireturn, 1) := by decide +kernel
theorem dL_law_241 : decode cL_law 241 = .ok (.goto 1252, 3) := by decide +kernel
theorem dL_law_244 : decode cL_law 244 = .ok (.aload_n 1, 1) := by decide +kernel
theorem dL_law_245 : decode cL_law 245 = .ok (.aload_n 0, 1) := by decide +kernel
theorem dL_law_246 : decode cL_law 246 = .ok (.iload 4, 2) := by decide +kernel
theorem dL_law_248 : decode cL_law 248 = .ok (.iconst 1, 1) := by decide +kernel
theorem dL_law_249 : decode cL_law 249 = .ok (.iadd, 1) := by decide +kernel
theorem dL_law_250 : decode cL_law 250 = .ok (.iaload, 1) := by decide +kernel
theorem dL_law_251 : decode cL_law 251 = .ok (.aload_n 0, 1) := by decide +kernel
theorem dL_law_252 : decode cL_law 252 = .ok (.iload 4, 2) := by decide +kernel
theorem dL_law_254 : decode cL_law 254 = .ok (.iconst 2, 1) := by decide +kernel
theorem dL_law_255 : decode cL_law 255 = .ok (.iadd, 1) := by decide +kernel
theorem dL_law_256 : decode cL_law 256 = .ok (.iaload, 1) := by decide +kernel
theorem dL_law_257 : decode cL_law 257 = .ok (.aload_n 3, 1) := by decide +kernel
theorem dL_law_258 : decode cL_law 258 = .ok (.invokestatic 85, 3) := by decide +kernel
theorem dL_law_261 : decode cL_law 261 = .ok (.istore 5, 2) := by decide +kernel
theorem dL_law_263 : decode cL_law 263 = .ok (.aload_n 2, 1) := by decide +kernel
theorem dL_law_264 : decode cL_law 264 = .ok (.aload_n 0, 1) := by decide +kernel
theorem dL_law_265 : decode cL_law 265 = .ok (.iload 4, 2) := by decide +kernel
theorem dL_law_267 : decode cL_law 267 = .ok (.iconst 1, 1) := by decide +kernel
theorem dL_law_268 : decode cL_law 268 = .ok (.iadd, 1) := by decide +kernel
theorem dL_law_269 : decode cL_law 269 = .ok (.iaload, 1) := by decide +kernel
theorem dL_law_270 : decode cL_law 270 = .ok (.aload_n 0, 1) := by decide +kernel
theorem dL_law_271 : decode cL_law 271 = .ok (.iload 4, 2) := by decide +kernel
theorem dL_law_273 : decode cL_law 273 = .ok (.iconst 2, 1) := by decide +kernel
theorem dL_law_274 : decode cL_law 274 = .ok (.iadd, 1) := by decide +kernel
theorem dL_law_275 : decode cL_law 275 = .ok (.iaload, 1) := by decide +kernel
theorem dL_law_276 : decode cL_law 276 = .ok (.invokevirtual 88, 3) := by decide +kernel
theorem dL_law_279 : decode cL_law 279 = .ok (.istore 6, 2) := by decide +kernel
theorem dL_law_281 : decode cL_law 281 = .ok (.aload_n 2, 1) := by decide +kernel
theorem dL_law_282 : decode cL_law 282 = .ok (.invokevirtual 82, 3) := by decide +kernel
theorem dL_law_285 : decode cL_law 285 = .ok (.iload 5, 2) := by decide +kernel
theorem dL_law_287 : decode cL_law 287 = .ok (.if_icmp .eq 5, 3) := by decide +kernel
theorem dL_law_290 : decode cL_law 290 = .ok (.iconst 0, 1) := by decide +kernel
theorem dL_law_291 : decode cL_law 291 = .ok (.ireturn, 1) := by decide +kernel
theorem dL_law_292 : decode cL_law 292 = .ok (.iload 5, 2) := by decide +kernel
theorem dL_law_294 : decode cL_law 294 = .ok (.ifCond .ne 15, 3) := by decide +kernel
theorem dL_law_297 : decode cL_law 297 = .ok (.aload_n 3, 1) := by decide +kernel
theorem dL_law_298 : decode cL_law 298 = .ok (.iconst 0, 1) := by decide +kernel
theorem dL_law_299 : decode cL_law 299 = .ok (.laload, 1) := by decide +kernel
theorem dL_law_300 : decode cL_law 300 = .ok (.iload 6, 2) := by decide +kernel
theorem dL_law_302 : decode cL_law 302 = .ok (.i2l, 1) := by decide +kernel
theorem dL_law_303 : decode cL_law 303 = .ok (.lcmp, 1) := by decide +kernel
theorem dL_law_304 : decode cL_law 304 = .ok (.ifCond .eq 5, 3) := by decide +kernel
theorem dL_law_307 : decode cL_law 307 = .ok (.iconst 0, 1) := by decide +kernel
theorem dL_law_308 : decode cL_law 308 = .ok (.ireturn, 1) := by decide +kernel
theorem dL_law_309 : decode cL_law 309 = .ok (.goto 1184, 3) := by decide +kernel
theorem dL_law_312 : decode cL_law 312 = .ok (.aload_n 1, 1) := by decide +kernel
theorem dL_law_313 : decode cL_law 313 = .ok (.invokevirtual 89, 3) := by decide +kernel
theorem dL_law_316 : decode cL_law 316 = .ok (.aload_n 2, 1) := by decide +kernel
theorem dL_law_317 : decode cL_law 317 = .ok (.invokevirtual 92, 3) := by decide +kernel
theorem dL_law_320 : decode cL_law 320 = .ok (.if_icmp .eq 1173, 3) := by decide +kernel
theorem dL_law_323 : decode cL_law 323 = .ok (.iconst 0, 1) := by decide +kernel
theorem dL_law_324 : decode cL_law 324 = .ok (.ireturn, 1) := by decide +kernel
theorem dL_law_325 : decode cL_law 325 = .ok (.aload_n 1, 1) := by decide +kernel
theorem dL_law_326 : decode cL_law 326 = .ok (.aload_n 3, 1) := by decide +kernel
theorem dL_law_327 : decode cL_law 327 = .ok (.invokestatic 93, 3) := by decide +kernel
theorem dL_law_330 : decode cL_law 330 = .ok (.istore 5, 2) := by decide +kernel
theorem dL_law_332 : decode cL_law 332 = .ok (.aload_n 2, 1) := by decide +kernel
theorem dL_law_333 : decode cL_law 333 = .ok (.invokevirtual 96, 3) := by decide +kernel
theorem dL_law_336 : decode cL_law 336 = .ok (.istore 6, 2) := by decide +kernel
theorem dL_law_338 : decode cL_law 338 = .ok (.aload_n 2, 1) := by decide +kernel
theorem dL_law_339 : decode cL_law 339 = .ok (.invokevirtual 82, 3) := by decide +kernel
theorem dL_law_342 : decode cL_law 342 = .ok (.iload 5, 2) := by decide +kernel
theorem dL_law_344 : decode cL_law 344 = .ok (.if_icmp .eq 5, 3) := by decide +kernel
theorem dL_law_347 : decode cL_law 347 = .ok (.iconst 0, 1) := by decide +kernel
theorem dL_law_348 : decode cL_law 348 = .ok (.ireturn, 1) := by decide +kernel
theorem dL_law_349 : decode cL_law 349 = .ok (.iload 5, 2) := by decide +kernel
theorem dL_law_351 : decode cL_law 351 = .ok (.ifCond .ne 15, 3) := by decide +kernel
theorem dL_law_354 : decode cL_law 354 = .ok (.aload_n 3, 1) := by decide +kernel
theorem dL_law_355 : decode cL_law 355 = .ok (.iconst 0, 1) := by decide +kernel
theorem dL_law_356 : decode cL_law 356 = .ok (.laload, 1) := by decide +kernel
theorem dL_law_357 : decode cL_law 357 = .ok (.iload 6, 2) := by decide +kernel
theorem dL_law_359 : decode cL_law 359 = .ok (.i2l, 1) := by decide +kernel
theorem dL_law_360 : decode cL_law 360 = .ok (.lcmp, 1) := by decide +kernel
theorem dL_law_361 : decode cL_law 361 = .ok (.ifCond .eq 5, 3) := by decide +kernel
theorem dL_law_364 : decode cL_law 364 = .ok (.iconst 0, 1) := by decide +kernel
theorem dL_law_365 : decode cL_law 365 = .ok (.ireturn, 1) := by decide +kernel
