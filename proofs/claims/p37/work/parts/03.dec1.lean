theorem dX4_next_41 : decode cX4_next 41 = .ok (.iload_n 1, 1) := by decide +kernel
theorem dX4_next_42 : decode cX4_next 42 = .ok (.if_icmp .le 16, 3) := by decide +kernel
theorem dX4_next_45 : decode cX4_next 45 = .ok (.aload_n 0, 1) := by decide +kernel
theorem dX4_next_46 : decode cX4_next 46 = .ok (.iload 5, 2) := by decide +kernel
theorem dX4_next_48 : decode cX4_next 48 = .ok (.invokevirtual 152, 3) := by decide +kernel
theorem dX4_next_51 : decode cX4_next 51 = .ok (.iconst (-1), 1) := by decide +kernel
theorem dX4_next_52 : decode cX4_next 52 = .ok (.if_icmp .eq 6, 3) := by decide +kernel
theorem dX4_next_55 : decode cX4_next 55 = .ok (.iload 5, 2) := by decide +kernel
theorem dX4_next_57 : decode cX4_next 57 = .ok (.ireturn, 1) := by decide +kernel
theorem dX4_next_58 : decode cX4_next 58 = .ok (.iinc 4 1, 3) := by decide +kernel
theorem dX4_next_61 : decode cX4_next 61 = .ok (.goto (-36), 3) := by decide +kernel
theorem dX4_next_64 : decode cX4_next 64 = .ok (.iinc 2 1, 3) := by decide +kernel
theorem dX4_next_67 : decode cX4_next 67 = .ok (.goto (-65), 3) := by decide +kernel
theorem dX4_next_70 : decode cX4_next 70 = .ok (.iconst (-1), 1) := by decide +kernel
theorem dX4_next_71 : decode cX4_next 71 = .ok (.ireturn, 1) := by decide +kernel
theorem dX4_rowAt_0 : decode cX4_rowAt 0 = .ok (.aload_n 0, 1) := by decide +kernel
theorem dX4_rowAt_1 : decode cX4_rowAt 1 = .ok (.iload_n 1, 1) := by decide +kernel
theorem dX4_rowAt_2 : decode cX4_rowAt 2 = .ok (.invokevirtual 132, 3) := by decide +kernel
theorem dX4_rowAt_5 : decode cX4_rowAt 5 = .ok (.istore_n 2, 1) := by decide +kernel
theorem dX4_rowAt_6 : decode cX4_rowAt 6 = .ok (.iload_n 2, 1) := by decide +kernel
theorem dX4_rowAt_7 : decode cX4_rowAt 7 = .ok (.iconst 1, 1) := by decide +kernel
theorem dX4_rowAt_8 : decode cX4_rowAt 8 = .ok (.if_icmp .ne 5, 3) := by decide +kernel
theorem dX4_rowAt_11 : decode cX4_rowAt 11 = .ok (.iload_n 1, 1) := by decide +kernel
theorem dX4_rowAt_12 : decode cX4_rowAt 12 = .ok (.ireturn, 1) := by decide +kernel
theorem dX4_rowAt_13 : decode cX4_rowAt 13 = .ok (.iload_n 2, 1) := by decide +kernel
theorem dX4_rowAt_14 : decode cX4_rowAt 14 = .ok (.iconst 3, 1) := by decide +kernel
theorem dX4_rowAt_15 : decode cX4_rowAt 15 = .ok (.if_icmp .ne 11, 3) := by decide +kernel
theorem dX4_rowAt_18 : decode cX4_rowAt 18 = .ok (.aload_n 0, 1) := by decide +kernel
theorem dX4_rowAt_19 : decode cX4_rowAt 19 = .ok (.iload_n 1, 1) := by decide +kernel
theorem dX4_rowAt_20 : decode cX4_rowAt 20 = .ok (.invokevirtual 155, 3) := by decide +kernel
theorem dX4_rowAt_23 : decode cX4_rowAt 23 = .ok (.goto 4, 3) := by decide +kernel
theorem dX4_rowAt_26 : decode cX4_rowAt 26 = .ok (.iconst (-1), 1) := by decide +kernel
theorem dX4_rowAt_27 : decode cX4_rowAt 27 = .ok (.ireturn, 1) := by decide +kernel
theorem dX4_pages_0 : decode cX4_pages 0 = .ok (.aload_n 0, 1) := by decide +kernel
theorem dX4_pages_1 : decode cX4_pages 1 = .ok (.getfield 20, 3) := by decide +kernel
theorem dX4_pages_4 : decode cX4_pages 4 = .ok (.getfield 143, 3) := by decide +kernel
theorem dX4_pages_7 : decode cX4_pages 7 = .ok (.ireturn, 1) := by decide +kernel
theorem dX4_free_0 : decode cX4_free 0 = .ok (.aload_n 0, 1) := by decide +kernel
theorem dX4_free_1 : decode cX4_free 1 = .ok (.iload_n 1, 1) := by decide +kernel
theorem dX4_free_2 : decode cX4_free 2 = .ok (.invokevirtual 123, 3) := by decide +kernel
theorem dX4_free_5 : decode cX4_free 5 = .ok (.aload_n 0, 1) := by decide +kernel
theorem dX4_free_6 : decode cX4_free 6 = .ok (.getfield 12, 3) := by decide +kernel
theorem dX4_free_9 : decode cX4_free 9 = .ok (.iload_n 1, 1) := by decide +kernel
theorem dX4_free_10 : decode cX4_free 10 = .ok (.invokevirtual 161, 3) := by decide +kernel
theorem dX4_free_13 : decode cX4_free 13 = .ok (.ireturn, 1) := by decide +kernel
theorem dX4_gap_0 : decode cX4_gap 0 = .ok (.aload_n 0, 1) := by decide +kernel
theorem dX4_gap_1 : decode cX4_gap 1 = .ok (.iload_n 1, 1) := by decide +kernel
theorem dX4_gap_2 : decode cX4_gap 2 = .ok (.invokevirtual 123, 3) := by decide +kernel
theorem dX4_gap_5 : decode cX4_gap 5 = .ok (.aload_n 0, 1) := by decide +kernel
theorem dX4_gap_6 : decode cX4_gap 6 = .ok (.getfield 12, 3) := by decide +kernel
theorem dX4_gap_9 : decode cX4_gap 9 = .ok (.iload_n 1, 1) := by decide +kernel
theorem dX4_gap_10 : decode cX4_gap 10 = .ok (.aload_n 0, 1) := by decide +kernel
theorem dX4_gap_11 : decode cX4_gap 11 = .ok (.getfield 20, 3) := by decide +kernel
theorem dX4_gap_14 : decode cX4_gap 14 = .ok (.iload_n 1, 1) := by decide +kernel
theorem dX4_gap_15 : decode cX4_gap 15 = .ok (.invokevirtual 146, 3) := by decide +kernel
theorem dX4_gap_18 : decode cX4_gap 18 = .ok (.invokevirtual 164, 3) := by decide +kernel
theorem dX4_gap_21 : decode cX4_gap 21 = .ok (.ireturn, 1) := by decide +kernel
theorem dX4_kind_0 : decode cX4_kind 0 = .ok (.iload_n 1, 1) := by decide +kernel
theorem dX4_kind_1 : decode cX4_kind 1 = .ok (.ifCond .ge 5, 3) := by decide +kernel
theorem dX4_kind_4 : decode cX4_kind 4 = .ok (.iconst 0, 1) := by decide +kernel
theorem dX4_kind_5 : decode cX4_kind 5 = .ok (.ireturn, 1) := by decide +kernel
theorem dX4_kind_6 : decode cX4_kind 6 = .ok (.iload_n 1, 1) := by decide +kernel
theorem dX4_kind_7 : decode cX4_kind 7 = .ok (.invokestatic 167, 3) := by decide +kernel
theorem dX4_kind_10 : decode cX4_kind 10 = .ok (.istore_n 2, 1) := by decide +kernel
theorem dX4_kind_11 : decode cX4_kind 11 = .ok (.iload_n 1, 1) := by decide +kernel
theorem dX4_kind_12 : decode cX4_kind 12 = .ok (.invokestatic 170, 3) := by decide +kernel
theorem dX4_kind_15 : decode cX4_kind 15 = .ok (.istore_n 3, 1) := by decide +kernel
theorem dX4_kind_16 : decode cX4_kind 16 = .ok (.iload_n 2, 1) := by decide +kernel
theorem dX4_kind_17 : decode cX4_kind 17 = .ok (.aload_n 0, 1) := by decide +kernel
theorem dX4_kind_18 : decode cX4_kind 18 = .ok (.getfield 20, 3) := by decide +kernel
theorem dX4_kind_21 : decode cX4_kind 21 = .ok (.getfield 143, 3) := by decide +kernel
theorem dX4_kind_24 : decode cX4_kind 24 = .ok (.if_icmp .ge 27, 3) := by decide +kernel
theorem dX4_kind_27 : decode cX4_kind 27 = .ok (.iload_n 3, 1) := by decide +kernel
theorem dX4_kind_28 : decode cX4_kind 28 = .ok (.aload_n 0, 1) := by decide +kernel
theorem dX4_kind_29 : decode cX4_kind 29 = .ok (.getfield 20, 3) := by decide +kernel
theorem dX4_kind_32 : decode cX4_kind 32 = .ok (.iload_n 2, 1) := by decide +kernel
theorem dX4_kind_33 : decode cX4_kind 33 = .ok (.invokevirtual 146, 3) := by decide +kernel
theorem dX4_kind_36 : decode cX4_kind 36 = .ok (.if_icmp .ge 15, 3) := by decide +kernel
theorem dX4_kind_39 : decode cX4_kind 39 = .ok (.aload_n 0, 1) := by decide +kernel
theorem dX4_kind_40 : decode cX4_kind 40 = .ok (.getfield 20, 3) := by decide +kernel
theorem dX4_kind_43 : decode cX4_kind 43 = .ok (.iload_n 2, 1) := by decide +kernel
theorem dX4_kind_44 : decode cX4_kind 44 = .ok (.iload_n 3, 1) := by decide +kernel
theorem dX4_kind_45 : decode cX4_kind 45 = .ok (.invokevirtual 173, 3) := by decide +kernel
theorem dX4_kind_48 : decode cX4_kind 48 = .ok (.ifCond .ne 5, 3) := by decide +kernel
theorem dX4_kind_51 : decode cX4_kind 51 = .ok (.iconst 0, 1) := by decide +kernel
theorem dX4_kind_52 : decode cX4_kind 52 = .ok (.ireturn, 1) := by decide +kernel
theorem dX4_kind_53 : decode cX4_kind 53 = .ok (.aload_n 0, 1) := by decide +kernel
theorem dX4_kind_54 : decode cX4_kind 54 = .ok (.getfield 20, 3) := by decide +kernel
theorem dX4_kind_57 : decode cX4_kind 57 = .ok (.iload_n 2, 1) := by decide +kernel
theorem dX4_kind_58 : decode cX4_kind 58 = .ok (.iload_n 3, 1) := by decide +kernel
theorem dX4_kind_59 : decode cX4_kind 59 = .ok (.iconst 0, 1) := by decide +kernel
theorem dX4_kind_60 : decode cX4_kind 60 = .ok (.invokevirtual 176, 3) := by decide +kernel
theorem dX4_kind_63 : decode cX4_kind 63 = .ok (.istore 4, 2) := by decide +kernel
theorem dX4_kind_65 : decode cX4_kind 65 = .ok (.iload 4, 2) := by decide +kernel
theorem dX4_kind_67 : decode cX4_kind 67 = .ok (.iconst 2, 1) := by decide +kernel
theorem dX4_kind_68 : decode cX4_kind 68 = .ok (.if_icmp .eq 9, 3) := by decide +kernel
theorem dX4_kind_71 : decode cX4_kind 71 = .ok (.iload 4, 2) := by decide +kernel
theorem dX4_kind_73 : decode cX4_kind 73 = .ok (.iconst 3, 1) := by decide +kernel
theorem dX4_kind_74 : decode cX4_kind 74 = .ok (.if_icmp .ne 8, 3) := by decide +kernel
theorem dX4_kind_77 : decode cX4_kind 77 = .ok (.iload 4, 2) := by decide +kernel
theorem dX4_kind_79 : decode cX4_kind 79 = .ok (.goto 4, 3) := by decide +kernel
theorem dX4_kind_82 : decode cX4_kind 82 = .ok (.iconst 1, 1) := by decide +kernel
theorem dX4_kind_83 : decode cX4_kind 83 = .ok (.ireturn, 1) := by decide +kernel
theorem dX4_notes_0 : decode cX4_notes 0 = .ok (.aload_n 0, 1) := by decide +kernel
theorem dX4_notes_1 : decode cX4_notes 1 = .ok (.iconst 2, 1) := by decide +kernel
theorem dX4_notes_2 : decode cX4_notes 2 = .ok (.invokevirtual 129, 3) := by decide +kernel
theorem dX4_notes_5 : decode cX4_notes 5 = .ok (.ireturn, 1) := by decide +kernel
theorem dX4_fillFactor_0 : decode cX4_fillFactor 0 = .ok (.aload_n 0, 1) := by decide +kernel
theorem dX4_fillFactor_1 : decode cX4_fillFactor 1 = .ok (.getfield 20, 3) := by decide +kernel
theorem dX4_fillFactor_4 : decode cX4_fillFactor 4 = .ok (.getfield 143, 3) := by decide +kernel
theorem dX4_fillFactor_7 : decode cX4_fillFactor 7 = .ok (.ifCond .gt 5, 3) := by decide +kernel
theorem dX4_fillFactor_10 : decode cX4_fillFactor 10 = .ok (.dconst 0, 1) := by decide +kernel
theorem dX4_fillFactor_11 : decode cX4_fillFactor 11 = .ok (.dreturn, 1) := by decide +kernel
theorem dX4_fillFactor_12 : decode cX4_fillFactor 12 = .ok (.iconst 0, 1) := by decide +kernel
theorem dX4_fillFactor_13 : decode cX4_fillFactor 13 = .ok (.istore_n 1, 1) := by decide +kernel
theorem dX4_fillFactor_14 : decode cX4_fillFactor 14 = .ok (.iconst 0, 1) := by decide +kernel
theorem dX4_fillFactor_15 : decode cX4_fillFactor 15 = .ok (.istore_n 2, 1) := by decide +kernel
theorem dX4_fillFactor_16 : decode cX4_fillFactor 16 = .ok (.iload_n 2, 1) := by decide +kernel
theorem dX4_fillFactor_17 : decode cX4_fillFactor 17 = .ok (.aload_n 0, 1) := by decide +kernel
theorem dX4_fillFactor_18 : decode cX4_fillFactor 18 = .ok (.getfield 20, 3) := by decide +kernel
theorem dX4_fillFactor_21 : decode cX4_fillFactor 21 = .ok (.getfield 143, 3) := by decide +kernel
theorem dX4_fillFactor_24 : decode cX4_fillFactor 24 = .ok (.if_icmp .ge 20, 3) := by decide +kernel
theorem dX4_fillFactor_27 : decode cX4_fillFactor 27 = .ok (.iload_n 1, 1) := by decide +kernel
theorem dX4_fillFactor_28 : decode cX4_fillFactor 28 = .ok (.aload_n 0, 1) := by decide +kernel
theorem dX4_fillFactor_29 : decode cX4_fillFactor 29 = .ok (.getfield 12, 3) := by decide +kernel
theorem dX4_fillFactor_32 : decode cX4_fillFactor 32 = .ok (.iload_n 2, 1) := by decide +kernel
theorem dX4_fillFactor_33 : decode cX4_fillFactor 33 = .ok (.invokevirtual 188, 3) := by decide +kernel
theorem dX4_fillFactor_36 : decode cX4_fillFactor 36 = .ok (.iadd, 1) := by decide +kernel
theorem dX4_fillFactor_37 : decode cX4_fillFactor 37 = .ok (.istore_n 1, 1) := by decide +kernel
theorem dX4_fillFactor_38 : decode cX4_fillFactor 38 = .ok (.iinc 2 1, 3) := by decide +kernel
theorem dX4_fillFactor_41 : decode cX4_fillFactor 41 = .ok (.goto (-25), 3) := by decide +kernel
theorem dX4_fillFactor_44 : decode cX4_fillFactor 44 = .ok (.iload_n 1, 1) := by decide +kernel
theorem dX4_fillFactor_45 : decode cX4_fillFactor 45 = .ok (.i2d, 1) := by decide +kernel
theorem dX4_fillFactor_46 : decode cX4_fillFactor 46 = .ok (.sipush 128, 3) := by decide +kernel
theorem dX4_fillFactor_49 : decode cX4_fillFactor 49 = .ok (.aload_n 0, 1) := by decide +kernel
theorem dX4_fillFactor_50 : decode cX4_fillFactor 50 = .ok (.getfield 20, 3) := by decide +kernel
theorem dX4_fillFactor_53 : decode cX4_fillFactor 53 = .ok (.getfield 143, 3) := by decide +kernel
theorem dX4_fillFactor_56 : decode cX4_fillFactor 56 = .ok (.imul, 1) := by decide +kernel
theorem dX4_fillFactor_57 : decode cX4_fillFactor 57 = .ok (.i2d, 1) := by decide +kernel
theorem dX4_fillFactor_58 : decode cX4_fillFactor 58 = .ok (.ddiv, 1) := by decide +kernel
theorem dX4_fillFactor_59 : decode cX4_fillFactor 59 = .ok (.dreturn, 1) := by decide +kernel
theorem dX4_ifInserted_0 : decode cX4_ifInserted 0 = .ok (.iload_n 1, 1) := by decide +kernel
theorem dX4_ifInserted_1 : decode cX4_ifInserted 1 = .ok (.invokestatic 191, 3) := by decide +kernel
theorem dX4_ifInserted_4 : decode cX4_ifInserted 4 = .ok (.aload_n 0, 1) := by decide +kernel
theorem dX4_ifInserted_5 : decode cX4_ifInserted 5 = .ok (.getfield 12, 3) := by decide +kernel
theorem dX4_ifInserted_8 : decode cX4_ifInserted 8 = .ok (.iload_n 1, 1) := by decide +kernel
theorem dX4_ifInserted_9 : decode cX4_ifInserted 9 = .ok (.invokestatic 78, 3) := by decide +kernel
theorem dX4_ifInserted_12 : decode cX4_ifInserted 12 = .ok (.iconst (-1), 1) := by decide +kernel
theorem dX4_ifInserted_13 : decode cX4_ifInserted 13 = .ok (.iconst (-1), 1) := by decide +kernel
theorem dX4_ifInserted_14 : decode cX4_ifInserted 14 = .ok (.invokevirtual 82, 3) := by decide +kernel
theorem dX4_ifInserted_17 : decode cX4_ifInserted 17 = .ok (.istore_n 2, 1) := by decide +kernel
theorem dX4_ifInserted_18 : decode cX4_ifInserted 18 = .ok (.iload_n 2, 1) := by decide +kernel
theorem dX4_ifInserted_19 : decode cX4_ifInserted 19 = .ok (.iconst (-1), 1) := by decide +kernel
theorem dX4_ifInserted_20 : decode cX4_ifInserted 20 = .ok (.if_icmp .ne 7, 3) := by decide +kernel
theorem dX4_ifInserted_23 : decode cX4_ifInserted 23 = .ok (.iconst (-1), 1) := by decide +kernel
theorem dX4_ifInserted_24 : decode cX4_ifInserted 24 = .ok (.goto 15, 3) := by decide +kernel
theorem dX4_ifInserted_27 : decode cX4_ifInserted 27 = .ok (.iload_n 2, 1) := by decide +kernel
theorem dX4_ifInserted_28 : decode cX4_ifInserted 28 = .ok (.aload_n 0, 1) := by decide +kernel
theorem dX4_ifInserted_29 : decode cX4_ifInserted 29 = .ok (.getfield 12, 3) := by decide +kernel
theorem dX4_ifInserted_32 : decode cX4_ifInserted 32 = .ok (.iload_n 2, 1) := by decide +kernel
theorem dX4_ifInserted_33 : decode cX4_ifInserted 33 = .ok (.invokevirtual 194, 3) := by decide +kernel
theorem dX4_ifInserted_36 : decode cX4_ifInserted 36 = .ok (.invokestatic 149, 3) := by decide +kernel
theorem dX4_ifInserted_39 : decode cX4_ifInserted 39 = .ok (.ireturn, 1) := by decide +kernel
theorem dX4_ifUpdated_0 : decode cX4_ifUpdated 0 = .ok (.aload_n 0, 1) := by decide +kernel
theorem dX4_ifUpdated_1 : decode cX4_ifUpdated 1 = .ok (.iload_n 1, 1) := by decide +kernel
theorem dX4_ifUpdated_2 : decode cX4_ifUpdated 2 = .ok (.invokevirtual 98, 3) := by decide +kernel
theorem dX4_ifUpdated_5 : decode cX4_ifUpdated 5 = .ok (.iload_n 2, 1) := by decide +kernel
theorem dX4_ifUpdated_6 : decode cX4_ifUpdated 6 = .ok (.invokestatic 191, 3) := by decide +kernel
theorem dX4_ifUpdated_9 : decode cX4_ifUpdated 9 = .ok (.aload_n 0, 1) := by decide +kernel
theorem dX4_ifUpdated_10 : decode cX4_ifUpdated 10 = .ok (.iload_n 1, 1) := by decide +kernel
theorem dX4_ifUpdated_11 : decode cX4_ifUpdated 11 = .ok (.iload_n 2, 1) := by decide +kernel
theorem dX4_ifUpdated_12 : decode cX4_ifUpdated 12 = .ok (.invokevirtual 101, 3) := by decide +kernel
theorem dX4_ifUpdated_15 : decode cX4_ifUpdated 15 = .ok (.ireturn, 1) := by decide +kernel
theorem dX4_greatestAtHome_0 : decode cX4_greatestAtHome 0 = .ok (.aload_n 0, 1) := by decide +kernel
theorem dX4_greatestAtHome_1 : decode cX4_greatestAtHome 1 = .ok (.iload_n 1, 1) := by decide +kernel
theorem dX4_greatestAtHome_2 : decode cX4_greatestAtHome 2 = .ok (.invokevirtual 98, 3) := by decide +kernel
theorem dX4_greatestAtHome_5 : decode cX4_greatestAtHome 5 = .ok (.bipush 60, 2) := by decide +kernel
theorem dX4_greatestAtHome_7 : decode cX4_greatestAtHome 7 = .ok (.aload_n 0, 1) := by decide +kernel
theorem dX4_greatestAtHome_8 : decode cX4_greatestAtHome 8 = .ok (.iload_n 1, 1) := by decide +kernel
theorem dX4_greatestAtHome_9 : decode cX4_greatestAtHome 9 = .ok (.invokevirtual 197, 3) := by decide +kernel
theorem dX4_greatestAtHome_12 : decode cX4_greatestAtHome 12 = .ok (.iconst 1, 1) := by decide +kernel
theorem dX4_greatestAtHome_13 : decode cX4_greatestAtHome 13 = .ok (.isub, 1) := by decide +kernel
theorem dX4_greatestAtHome_14 : decode cX4_greatestAtHome 14 = .ok (.invokestatic 200, 3) := by decide +kernel
theorem dX4_greatestAtHome_17 : decode cX4_greatestAtHome 17 = .ok (.ireturn, 1) := by decide +kernel
theorem dX4_capacity_0 : decode cX4_capacity 0 = .ok (.iload_n 1, 1) := by decide +kernel
theorem dX4_capacity_1 : decode cX4_capacity 1 = .ok (.invokestatic 191, 3) := by decide +kernel
theorem dX4_capacity_4 : decode cX4_capacity 4 = .ok (.iload_n 1, 1) := by decide +kernel
theorem dX4_capacity_5 : decode cX4_capacity 5 = .ok (.invokestatic 78, 3) := by decide +kernel
theorem dX4_capacity_8 : decode cX4_capacity 8 = .ok (.istore_n 2, 1) := by decide +kernel
theorem dX4_capacity_9 : decode cX4_capacity 9 = .ok (.iconst 0, 1) := by decide +kernel
theorem dX4_capacity_10 : decode cX4_capacity 10 = .ok (.istore_n 3, 1) := by decide +kernel
theorem dX4_capacity_11 : decode cX4_capacity 11 = .ok (.iconst 0, 1) := by decide +kernel
theorem dX4_capacity_12 : decode cX4_capacity 12 = .ok (.istore 4, 2) := by decide +kernel
theorem dX4_capacity_14 : decode cX4_capacity 14 = .ok (.iload 4, 2) := by decide +kernel
theorem dX4_capacity_16 : decode cX4_capacity 16 = .ok (.bipush 8, 2) := by decide +kernel
theorem dX4_capacity_18 : decode cX4_capacity 18 = .ok (.if_icmp .ge 22, 3) := by decide +kernel
theorem dX4_capacity_21 : decode cX4_capacity 21 = .ok (.iload_n 3, 1) := by decide +kernel
theorem dX4_capacity_22 : decode cX4_capacity 22 = .ok (.aload_n 0, 1) := by decide +kernel
theorem dX4_capacity_23 : decode cX4_capacity 23 = .ok (.getfield 12, 3) := by decide +kernel
theorem dX4_capacity_26 : decode cX4_capacity 26 = .ok (.iload 4, 2) := by decide +kernel
theorem dX4_capacity_28 : decode cX4_capacity 28 = .ok (.iload_n 2, 1) := by decide +kernel
theorem dX4_capacity_29 : decode cX4_capacity 29 = .ok (.invokevirtual 205, 3) := by decide +kernel
theorem dX4_capacity_32 : decode cX4_capacity 32 = .ok (.iadd, 1) := by decide +kernel
theorem dX4_capacity_33 : decode cX4_capacity 33 = .ok (.istore_n 3, 1) := by decide +kernel
theorem dX4_capacity_34 : decode cX4_capacity 34 = .ok (.iinc 4 1, 3) := by decide +kernel
theorem dX4_capacity_37 : decode cX4_capacity 37 = .ok (.goto (-23), 3) := by decide +kernel
theorem dX4_capacity_40 : decode cX4_capacity 40 = .ok (.iload_n 3, 1) := by decide +kernel
theorem dX4_capacity_41 : decode cX4_capacity 41 = .ok (.ireturn, 1) := by decide +kernel
theorem dX4_undo_0 : decode cX4_undo 0 = .ok (.aload_n 0, 1) := by decide +kernel
theorem dX4_undo_1 : decode cX4_undo 1 = .ok (.getfield 231, 3) := by decide +kernel
theorem dX4_undo_4 : decode cX4_undo 4 = .ok (.ifCond .le 15, 3) := by decide +kernel
theorem dX4_undo_7 : decode cX4_undo 7 = .ok (.aload_n 0, 1) := by decide +kernel
theorem dX4_undo_8 : decode cX4_undo 8 = .ok (.getfield 231, 3) := by decide +kernel
theorem dX4_undo_11 : decode cX4_undo 11 = .ok (.aload_n 0, 1) := by decide +kernel
theorem dX4_undo_12 : decode cX4_undo 12 = .ok (.getfield 45, 3) := by decide +kernel
theorem dX4_undo_15 : decode cX4_undo 15 = .ok (.arraylength, 1) := by decide +kernel
theorem dX4_undo_16 : decode cX4_undo 16 = .ok (.if_icmp .le 13, 3) := by decide +kernel
theorem dX4_undo_19 : decode cX4_undo 19 = .ok (.new 70, 3) := by decide +kernel
theorem dX4_undo_22 : decode cX4_undo 22 = .ok (.dup, 1) := by decide +kernel
theorem dX4_undo_23 : decode cX4_undo 23 = .ok (.ldc 234, 2) := by decide +kernel
theorem dX4_undo_25 : decode cX4_undo 25 = .ok (.invokespecial 74, 3) := by decide +kernel
theorem dX4_undo_28 : decode cX4_undo 28 = .ok (.athrow, 1) := by decide +kernel
theorem dX4_undo_29 : decode cX4_undo 29 = .ok (.aload_n 0, 1) := by decide +kernel
theorem dX4_undo_30 : decode cX4_undo 30 = .ok (.dup, 1) := by decide +kernel
theorem dX4_undo_31 : decode cX4_undo 31 = .ok (.getfield 231, 3) := by decide +kernel
theorem dX4_undo_34 : decode cX4_undo 34 = .ok (.iconst 1, 1) := by decide +kernel
theorem dX4_undo_35 : decode cX4_undo 35 = .ok (.isub, 1) := by decide +kernel
theorem dX4_undo_36 : decode cX4_undo 36 = .ok (.putfield 231, 3) := by decide +kernel
theorem dX4_undo_39 : decode cX4_undo 39 = .ok (.aload_n 0, 1) := by decide +kernel
theorem dX4_undo_40 : decode cX4_undo 40 = .ok (.getfield 20, 3) := by decide +kernel
theorem dX4_undo_43 : decode cX4_undo 43 = .ok (.aload_n 0, 1) := by decide +kernel
theorem dX4_undo_44 : decode cX4_undo 44 = .ok (.getfield 45, 3) := by decide +kernel
theorem dX4_undo_47 : decode cX4_undo 47 = .ok (.aload_n 0, 1) := by decide +kernel
theorem dX4_undo_48 : decode cX4_undo 48 = .ok (.getfield 231, 3) := by decide +kernel
theorem dX4_undo_51 : decode cX4_undo 51 = .ok (.aaload, 1) := by decide +kernel
theorem dX4_undo_52 : decode cX4_undo 52 = .ok (.invokevirtual 236, 3) := by decide +kernel
theorem dX4_undo_55 : decode cX4_undo 55 = .ok (.aload_n 0, 1) := by decide +kernel
theorem dX4_undo_56 : decode cX4_undo 56 = .ok (.getfield 231, 3) := by decide +kernel
theorem dX4_undo_59 : decode cX4_undo 59 = .ok (.ireturn, 1) := by decide +kernel
theorem dX4_savedStates_0 : decode cX4_savedStates 0 = .ok (.aload_n 0, 1) := by decide +kernel
theorem dX4_savedStates_1 : decode cX4_savedStates 1 = .ok (.getfield 231, 3) := by decide +kernel
theorem dX4_savedStates_4 : decode cX4_savedStates 4 = .ok (.ireturn, 1) := by decide +kernel
theorem dX4_digest_0 : decode cX4_digest 0 = .ok (.ldc2_w 240, 3) := by decide +kernel
theorem dX4_digest_3 : decode cX4_digest 3 = .ok (.lstore_n 1, 1) := by decide +kernel
theorem dX4_digest_4 : decode cX4_digest 4 = .ok (.ldc2_w 242, 3) := by decide +kernel
theorem dX4_digest_7 : decode cX4_digest 7 = .ok (.lload_n 1, 1) := by decide +kernel
theorem dX4_digest_8 : decode cX4_digest 8 = .ok (.lmul, 1) := by decide +kernel
theorem dX4_digest_9 : decode cX4_digest 9 = .ok (.aload_n 0, 1) := by decide +kernel
theorem dX4_digest_10 : decode cX4_digest 10 = .ok (.getfield 20, 3) := by decide +kernel
theorem dX4_digest_13 : decode cX4_digest 13 = .ok (.getfield 143, 3) := by decide +kernel
theorem dX4_digest_16 : decode cX4_digest 16 = .ok (.i2l, 1) := by decide +kernel
theorem dX4_digest_17 : decode cX4_digest 17 = .ok (.ladd, 1) := by decide +kernel
theorem dX4_digest_18 : decode cX4_digest 18 = .ok (.lstore_n 1, 1) := by decide +kernel
theorem dX4_digest_19 : decode cX4_digest 19 = .ok (.ldc2_w 242, 3) := by decide +kernel
theorem dX4_digest_22 : decode cX4_digest 22 = .ok (.lload_n 1, 1) := by decide +kernel
theorem dX4_digest_23 : decode cX4_digest 23 = .ok (.lmul, 1) := by decide +kernel
theorem dX4_digest_24 : decode cX4_digest 24 = .ok (.aload_n 0, 1) := by decide +kernel
theorem dX4_digest_25 : decode cX4_digest 25 = .ok (.invokevirtual 244, 3) := by decide +kernel
theorem dX4_digest_28 : decode cX4_digest 28 = .ok (.i2l, 1) := by decide +kernel
theorem dX4_digest_29 : decode cX4_digest 29 = .ok (.ladd, 1) := by decide +kernel
theorem dX4_digest_30 : decode cX4_digest 30 = .ok (.lstore_n 1, 1) := by decide +kernel
theorem dX4_digest_31 : decode cX4_digest 31 = .ok (.ldc2_w 242, 3) := by decide +kernel
theorem dX4_digest_34 : decode cX4_digest 34 = .ok (.lload_n 1, 1) := by decide +kernel
theorem dX4_digest_35 : decode cX4_digest 35 = .ok (.lmul, 1) := by decide +kernel
theorem dX4_digest_36 : decode cX4_digest 36 = .ok (.aload_n 0, 1) := by decide +kernel
theorem dX4_digest_37 : decode cX4_digest 37 = .ok (.invokevirtual 247, 3) := by decide +kernel
theorem dX4_digest_40 : decode cX4_digest 40 = .ok (.i2l, 1) := by decide +kernel
theorem dX4_digest_41 : decode cX4_digest 41 = .ok (.ladd, 1) := by decide +kernel
theorem dX4_digest_42 : decode cX4_digest 42 = .ok (.lstore_n 1, 1) := by decide +kernel
theorem dX4_digest_43 : decode cX4_digest 43 = .ok (.ldc2_w 242, 3) := by decide +kernel
theorem dX4_digest_46 : decode cX4_digest 46 = .ok (.lload_n 1, 1) := by decide +kernel
theorem dX4_digest_47 : decode cX4_digest 47 = .ok (.lmul, 1) := by decide +kernel
theorem dX4_digest_48 : decode cX4_digest 48 = .ok (.aload_n 0, 1) := by decide +kernel
theorem dX4_digest_49 : decode cX4_digest 49 = .ok (.getfield 20, 3) := by decide +kernel
theorem dX4_digest_52 : decode cX4_digest 52 = .ok (.getfield 179, 3) := by decide +kernel
theorem dX4_digest_55 : decode cX4_digest 55 = .ok (.i2l, 1) := by decide +kernel
theorem dX4_digest_56 : decode cX4_digest 56 = .ok (.ladd, 1) := by decide +kernel
theorem dX4_digest_57 : decode cX4_digest 57 = .ok (.lstore_n 1, 1) := by decide +kernel
theorem dX4_digest_58 : decode cX4_digest 58 = .ok (.ldc2_w 242, 3) := by decide +kernel
theorem dX4_digest_61 : decode cX4_digest 61 = .ok (.lload_n 1, 1) := by decide +kernel
theorem dX4_digest_62 : decode cX4_digest 62 = .ok (.lmul, 1) := by decide +kernel
theorem dX4_digest_63 : decode cX4_digest 63 = .ok (.aload_n 0, 1) := by decide +kernel
theorem dX4_digest_64 : decode cX4_digest 64 = .ok (.getfield 20, 3) := by decide +kernel
theorem dX4_digest_67 : decode cX4_digest 67 = .ok (.getfield 182, 3) := by decide +kernel
theorem dX4_digest_70 : decode cX4_digest 70 = .ok (.i2l, 1) := by decide +kernel
theorem dX4_digest_71 : decode cX4_digest 71 = .ok (.ladd, 1) := by decide +kernel
theorem dX4_digest_72 : decode cX4_digest 72 = .ok (.lstore_n 1, 1) := by decide +kernel
theorem dX4_digest_73 : decode cX4_digest 73 = .ok (.ldc2_w 242, 3) := by decide +kernel
theorem dX4_digest_76 : decode cX4_digest 76 = .ok (.lload_n 1, 1) := by decide +kernel
theorem dX4_digest_77 : decode cX4_digest 77 = .ok (.lmul, 1) := by decide +kernel
theorem dX4_digest_78 : decode cX4_digest 78 = .ok (.aload_n 0, 1) := by decide +kernel
theorem dX4_digest_79 : decode cX4_digest 79 = .ok (.getfield 20, 3) := by decide +kernel
theorem dX4_digest_82 : decode cX4_digest 82 = .ok (.getfield 185, 3) := by decide +kernel
theorem dX4_digest_85 : decode cX4_digest 85 = .ok (.i2l, 1) := by decide +kernel
theorem dX4_digest_86 : decode cX4_digest 86 = .ok (.ladd, 1) := by decide +kernel
theorem dX4_digest_87 : decode cX4_digest 87 = .ok (.lstore_n 1, 1) := by decide +kernel
theorem dX4_digest_88 : decode cX4_digest 88 = .ok (.iconst 0, 1) := by decide +kernel
theorem dX4_digest_89 : decode cX4_digest 89 = .ok (.istore_n 3, 1) := by decide +kernel
theorem dX4_digest_90 : decode cX4_digest 90 = .ok (.iload_n 3, 1) := by decide +kernel
theorem dX4_digest_91 : decode cX4_digest 91 = .ok (.aload_n 0, 1) := by decide +kernel
theorem dX4_digest_92 : decode cX4_digest 92 = .ok (.getfield 20, 3) := by decide +kernel
theorem dX4_digest_95 : decode cX4_digest 95 = .ok (.getfield 143, 3) := by decide +kernel
theorem dX4_digest_98 : decode cX4_digest 98 = .ok (.if_icmp .ge 84, 3) := by decide +kernel
theorem dX4_digest_101 : decode cX4_digest 101 = .ok (.ldc2_w 242, 3) := by decide +kernel
theorem dX4_digest_104 : decode cX4_digest 104 = .ok (.lload_n 1, 1) := by decide +kernel
theorem dX4_digest_105 : decode cX4_digest 105 = .ok (.lmul, 1) := by decide +kernel
theorem dX4_digest_106 : decode cX4_digest 106 = .ok (.aload_n 0, 1) := by decide +kernel
theorem dX4_digest_107 : decode cX4_digest 107 = .ok (.getfield 12, 3) := by decide +kernel
theorem dX4_digest_110 : decode cX4_digest 110 = .ok (.iload_n 3, 1) := by decide +kernel
theorem dX4_digest_111 : decode cX4_digest 111 = .ok (.invokevirtual 161, 3) := by decide +kernel
theorem dX4_digest_114 : decode cX4_digest 114 = .ok (.i2l, 1) := by decide +kernel
theorem dX4_digest_115 : decode cX4_digest 115 = .ok (.ladd, 1) := by decide +kernel
theorem dX4_digest_116 : decode cX4_digest 116 = .ok (.lstore_n 1, 1) := by decide +kernel
theorem dX4_digest_117 : decode cX4_digest 117 = .ok (.ldc2_w 242, 3) := by decide +kernel
theorem dX4_digest_120 : decode cX4_digest 120 = .ok (.lload_n 1, 1) := by decide +kernel
theorem dX4_digest_121 : decode cX4_digest 121 = .ok (.lmul, 1) := by decide +kernel
theorem dX4_digest_122 : decode cX4_digest 122 = .ok (.aload_n 0, 1) := by decide +kernel
theorem dX4_digest_123 : decode cX4_digest 123 = .ok (.getfield 12, 3) := by decide +kernel
theorem dX4_digest_126 : decode cX4_digest 126 = .ok (.iload_n 3, 1) := by decide +kernel
theorem dX4_digest_127 : decode cX4_digest 127 = .ok (.aload_n 0, 1) := by decide +kernel
theorem dX4_digest_128 : decode cX4_digest 128 = .ok (.getfield 20, 3) := by decide +kernel
theorem dX4_digest_131 : decode cX4_digest 131 = .ok (.iload_n 3, 1) := by decide +kernel
theorem dX4_digest_132 : decode cX4_digest 132 = .ok (.invokevirtual 146, 3) := by decide +kernel
theorem dX4_digest_135 : decode cX4_digest 135 = .ok (.invokevirtual 164, 3) := by decide +kernel
theorem dX4_digest_138 : decode cX4_digest 138 = .ok (.i2l, 1) := by decide +kernel
theorem dX4_digest_139 : decode cX4_digest 139 = .ok (.ladd, 1) := by decide +kernel
theorem dX4_digest_140 : decode cX4_digest 140 = .ok (.lstore_n 1, 1) := by decide +kernel
theorem dX4_digest_141 : decode cX4_digest 141 = .ok (.iconst 0, 1) := by decide +kernel
theorem dX4_digest_142 : decode cX4_digest 142 = .ok (.istore 4, 2) := by decide +kernel
theorem dX4_digest_144 : decode cX4_digest 144 = .ok (.iload 4, 2) := by decide +kernel
theorem dX4_digest_146 : decode cX4_digest 146 = .ok (.sipush 128, 3) := by decide +kernel
theorem dX4_digest_149 : decode cX4_digest 149 = .ok (.if_icmp .ge 27, 3) := by decide +kernel
theorem dX4_digest_152 : decode cX4_digest 152 = .ok (.ldc2_w 242, 3) := by decide +kernel
theorem dX4_digest_155 : decode cX4_digest 155 = .ok (.lload_n 1, 1) := by decide +kernel
theorem dX4_digest_156 : decode cX4_digest 156 = .ok (.lmul, 1) := by decide +kernel
theorem dX4_digest_157 : decode cX4_digest 157 = .ok (.aload_n 0, 1) := by decide +kernel
theorem dX4_digest_158 : decode cX4_digest 158 = .ok (.getfield 20, 3) := by decide +kernel
theorem dX4_digest_161 : decode cX4_digest 161 = .ok (.iload_n 3, 1) := by decide +kernel
theorem dX4_digest_162 : decode cX4_digest 162 = .ok (.iload 4, 2) := by decide +kernel
theorem dX4_digest_164 : decode cX4_digest 164 = .ok (.invokevirtual 158, 3) := by decide +kernel
theorem dX4_digest_167 : decode cX4_digest 167 = .ok (.i2l, 1) := by decide +kernel
theorem dX4_digest_168 : decode cX4_digest 168 = .ok (.ladd, 1) := by decide +kernel
theorem dX4_digest_169 : decode cX4_digest 169 = .ok (.lstore_n 1, 1) := by decide +kernel
theorem dX4_digest_170 : decode cX4_digest 170 = .ok (.iinc 4 1, 3) := by decide +kernel
theorem dX4_digest_173 : decode cX4_digest 173 = .ok (.goto (-29), 3) := by decide +kernel
theorem dX4_digest_176 : decode cX4_digest 176 = .ok (.iinc 3 1, 3) := by decide +kernel
theorem dX4_digest_179 : decode cX4_digest 179 = .ok (.goto (-89), 3) := by decide +kernel
theorem dX4_digest_182 : decode cX4_digest 182 = .ok (.ldc2_w 242, 3) := by decide +kernel
theorem dX4_digest_185 : decode cX4_digest 185 = .ok (.lload_n 1, 1) := by decide +kernel
theorem dX4_digest_186 : decode cX4_digest 186 = .ok (.lmul, 1) := by decide +kernel
theorem dX4_digest_187 : decode cX4_digest 187 = .ok (.aload_n 0, 1) := by decide +kernel
theorem dX4_digest_188 : decode cX4_digest 188 = .ok (.invokevirtual 250, 3) := by decide +kernel
theorem dX4_digest_191 : decode cX4_digest 191 = .ok (.d2f, 1) := by decide +kernel
theorem dX4_digest_192 : decode cX4_digest 192 = .ok (.invokestatic 254, 3) := by decide +kernel
theorem dX4_digest_195 : decode cX4_digest 195 = .ok (.i2l, 1) := by decide +kernel
theorem dX4_digest_196 : decode cX4_digest 196 = .ok (.ladd, 1) := by decide +kernel
theorem dX4_digest_197 : decode cX4_digest 197 = .ok (.lreturn, 1) := by decide +kernel
theorem dX4_bitsOfFraction_0 : decode cX4_bitsOfFraction 0 = .ok (.fload_n 0, 1) := by decide +kernel
theorem dX4_bitsOfFraction_1 : decode cX4_bitsOfFraction 1 = .ok (.fconst 0, 1) := by decide +kernel
theorem dX4_bitsOfFraction_2 : decode cX4_bitsOfFraction 2 = .ok (.fcmp .l, 1) := by decide +kernel
theorem dX4_bitsOfFraction_3 : decode cX4_bitsOfFraction 3 = .ok (.ifCond .gt 5, 3) := by decide +kernel
theorem dX4_bitsOfFraction_6 : decode cX4_bitsOfFraction 6 = .ok (.iconst 0, 1) := by decide +kernel
theorem dX4_bitsOfFraction_7 : decode cX4_bitsOfFraction 7 = .ok (.ireturn, 1) := by decide +kernel
theorem dX4_bitsOfFraction_8 : decode cX4_bitsOfFraction 8 = .ok (.bipush 127, 2) := by decide +kernel
theorem dX4_bitsOfFraction_10 : decode cX4_bitsOfFraction 10 = .ok (.istore_n 1, 1) := by decide +kernel
theorem dX4_bitsOfFraction_11 : decode cX4_bitsOfFraction 11 = .ok (.fload_n 0, 1) := by decide +kernel
theorem dX4_bitsOfFraction_12 : decode cX4_bitsOfFraction 12 = .ok (.fstore_n 2, 1) := by decide +kernel
theorem dX4_bitsOfFraction_13 : decode cX4_bitsOfFraction 13 = .ok (.iconst 0, 1) := by decide +kernel
theorem dX4_bitsOfFraction_14 : decode cX4_bitsOfFraction 14 = .ok (.istore_n 3, 1) := by decide +kernel
theorem dX4_bitsOfFraction_15 : decode cX4_bitsOfFraction 15 = .ok (.iload_n 3, 1) := by decide +kernel
theorem dX4_bitsOfFraction_16 : decode cX4_bitsOfFraction 16 = .ok (.bipush 126, 2) := by decide +kernel
theorem dX4_bitsOfFraction_18 : decode cX4_bitsOfFraction 18 = .ok (.if_icmp .ge 22, 3) := by decide +kernel
theorem dX4_bitsOfFraction_21 : decode cX4_bitsOfFraction 21 = .ok (.fload_n 2, 1) := by decide +kernel
theorem dX4_bitsOfFraction_22 : decode cX4_bitsOfFraction 22 = .ok (.fconst 1, 1) := by decide +kernel
theorem dX4_bitsOfFraction_23 : decode cX4_bitsOfFraction 23 = .ok (.fcmp .g, 1) := by decide +kernel
theorem dX4_bitsOfFraction_24 : decode cX4_bitsOfFraction 24 = .ok (.ifCond .ge 16, 3) := by decide +kernel
theorem dX4_bitsOfFraction_27 : decode cX4_bitsOfFraction 27 = .ok (.fload_n 2, 1) := by decide +kernel
theorem dX4_bitsOfFraction_28 : decode cX4_bitsOfFraction 28 = .ok (.fconst 2, 1) := by decide +kernel
theorem dX4_bitsOfFraction_29 : decode cX4_bitsOfFraction 29 = .ok (.fmul, 1) := by decide +kernel
theorem dX4_bitsOfFraction_30 : decode cX4_bitsOfFraction 30 = .ok (.fstore_n 2, 1) := by decide +kernel
theorem dX4_bitsOfFraction_31 : decode cX4_bitsOfFraction 31 = .ok (.iinc 1 (-1), 3) := by decide +kernel
theorem dX4_bitsOfFraction_34 : decode cX4_bitsOfFraction 34 = .ok (.iinc 3 1, 3) := by decide +kernel
theorem dX4_bitsOfFraction_37 : decode cX4_bitsOfFraction 37 = .ok (.goto (-22), 3) := by decide +kernel
theorem dX4_bitsOfFraction_40 : decode cX4_bitsOfFraction 40 = .ok (.iload_n 1, 1) := by decide +kernel
theorem dX4_bitsOfFraction_41 : decode cX4_bitsOfFraction 41 = .ok (.bipush 23, 2) := by decide +kernel
theorem dX4_bitsOfFraction_43 : decode cX4_bitsOfFraction 43 = .ok (.ishl, 1) := by decide +kernel
theorem dX4_bitsOfFraction_44 : decode cX4_bitsOfFraction 44 = .ok (.fload_n 2, 1) := by decide +kernel
theorem dX4_bitsOfFraction_45 : decode cX4_bitsOfFraction 45 = .ok (.fconst 1, 1) := by decide +kernel
theorem dX4_bitsOfFraction_46 : decode cX4_bitsOfFraction 46 = .ok (.fsub, 1) := by decide +kernel
theorem dX4_bitsOfFraction_47 : decode cX4_bitsOfFraction 47 = .ok (.ldc_w 258, 3) := by decide +kernel
theorem dX4_bitsOfFraction_50 : decode cX4_bitsOfFraction 50 = .ok (.fmul, 1) := by decide +kernel
theorem dX4_bitsOfFraction_51 : decode cX4_bitsOfFraction 51 = .ok (.f2i, 1) := by decide +kernel
theorem dX4_bitsOfFraction_52 : decode cX4_bitsOfFraction 52 = .ok (.iadd, 1) := by decide +kernel
theorem dX4_bitsOfFraction_53 : decode cX4_bitsOfFraction 53 = .ok (.ireturn, 1) := by decide +kernel
theorem dX4_requireRow_0 : decode cX4_requireRow 0 = .ok (.aload_n 0, 1) := by decide +kernel
theorem dX4_requireRow_1 : decode cX4_requireRow 1 = .ok (.iload_n 1, 1) := by decide +kernel
theorem dX4_requireRow_2 : decode cX4_requireRow 2 = .ok (.invokevirtual 259, 3) := by decide +kernel
theorem dX4_requireRow_5 : decode cX4_requireRow 5 = .ok (.ifCond .ne 14, 3) := by decide +kernel
theorem dX4_requireRow_8 : decode cX4_requireRow 8 = .ok (.new 135, 3) := by decide +kernel
theorem dX4_requireRow_11 : decode cX4_requireRow 11 = .ok (.dup, 1) := by decide +kernel
theorem dX4_requireRow_12 : decode cX4_requireRow 12 = .ok (.ldc_w 262, 3) := by decide +kernel
theorem dX4_requireRow_15 : decode cX4_requireRow 15 = .ok (.invokespecial 139, 3) := by decide +kernel
theorem dX4_requireRow_18 : decode cX4_requireRow 18 = .ok (.athrow, 1) := by decide +kernel
theorem dX4_requireRow_19 : decode cX4_requireRow 19 = .ok (.return_, 1) := by decide +kernel
theorem dX4_requirePage_0 : decode cX4_requirePage 0 = .ok (.iload_n 1, 1) := by decide +kernel
theorem dX4_requirePage_1 : decode cX4_requirePage 1 = .ok (.ifCond .lt 14, 3) := by decide +kernel
theorem dX4_requirePage_4 : decode cX4_requirePage 4 = .ok (.iload_n 1, 1) := by decide +kernel
theorem dX4_requirePage_5 : decode cX4_requirePage 5 = .ok (.aload_n 0, 1) := by decide +kernel
theorem dX4_requirePage_6 : decode cX4_requirePage 6 = .ok (.getfield 20, 3) := by decide +kernel
theorem dX4_requirePage_9 : decode cX4_requirePage 9 = .ok (.getfield 143, 3) := by decide +kernel
theorem dX4_requirePage_12 : decode cX4_requirePage 12 = .ok (.if_icmp .lt 14, 3) := by decide +kernel
theorem dX4_requirePage_15 : decode cX4_requirePage 15 = .ok (.new 135, 3) := by decide +kernel
theorem dX4_requirePage_18 : decode cX4_requirePage 18 = .ok (.dup, 1) := by decide +kernel
theorem dX4_requirePage_19 : decode cX4_requirePage 19 = .ok (.ldc_w 264, 3) := by decide +kernel
theorem dX4_requirePage_22 : decode cX4_requirePage 22 = .ok (.invokespecial 139, 3) := by decide +kernel
theorem dX4_requirePage_25 : decode cX4_requirePage 25 = .ok (.athrow, 1) := by decide +kernel
theorem dX4_requirePage_26 : decode cX4_requirePage 26 = .ok (.return_, 1) := by decide +kernel
theorem dX4_requireLength_0 : decode cX4_requireLength 0 = .ok (.iload_n 0, 1) := by decide +kernel
theorem dX4_requireLength_1 : decode cX4_requireLength 1 = .ok (.ifCond .lt 9, 3) := by decide +kernel
theorem dX4_requireLength_4 : decode cX4_requireLength 4 = .ok (.iload_n 0, 1) := by decide +kernel
theorem dX4_requireLength_5 : decode cX4_requireLength 5 = .ok (.bipush 60, 2) := by decide +kernel
theorem dX4_requireLength_7 : decode cX4_requireLength 7 = .ok (.if_icmp .le 14, 3) := by decide +kernel
theorem dX4_requireLength_10 : decode cX4_requireLength 10 = .ok (.new 61, 3) := by decide +kernel
theorem dX4_requireLength_13 : decode cX4_requireLength 13 = .ok (.dup, 1) := by decide +kernel
theorem dX4_requireLength_14 : decode cX4_requireLength 14 = .ok (.ldc_w 266, 3) := by decide +kernel
theorem dX4_requireLength_17 : decode cX4_requireLength 17 = .ok (.invokespecial 65, 3) := by decide +kernel
theorem dX4_requireLength_20 : decode cX4_requireLength 20 = .ok (.athrow, 1) := by decide +kernel
theorem dX4_requireLength_21 : decode cX4_requireLength 21 = .ok (.return_, 1) := by decide +kernel
theorem dX4_placeAt_0 : decode cX4_placeAt 0 = .ok (.bipush 100, 2) := by decide +kernel
theorem dX4_placeAt_2 : decode cX4_placeAt 2 = .ok (.iload_n 0, 1) := by decide +kernel
theorem dX4_placeAt_3 : decode cX4_placeAt 3 = .ok (.imul, 1) := by decide +kernel
theorem dX4_placeAt_4 : decode cX4_placeAt 4 = .ok (.iload_n 1, 1) := by decide +kernel
theorem dX4_placeAt_5 : decode cX4_placeAt 5 = .ok (.iadd, 1) := by decide +kernel
theorem dX4_placeAt_6 : decode cX4_placeAt 6 = .ok (.ireturn, 1) := by decide +kernel
theorem dX4_pageIn_0 : decode cX4_pageIn 0 = .ok (.iload_n 0, 1) := by decide +kernel
theorem dX4_pageIn_1 : decode cX4_pageIn 1 = .ok (.bipush 100, 2) := by decide +kernel
theorem dX4_pageIn_3 : decode cX4_pageIn 3 = .ok (.idiv, 1) := by decide +kernel
theorem dX4_pageIn_4 : decode cX4_pageIn 4 = .ok (.ireturn, 1) := by decide +kernel
theorem dX4_slotIn_0 : decode cX4_slotIn 0 = .ok (.iload_n 0, 1) := by decide +kernel
theorem dX4_slotIn_1 : decode cX4_slotIn 1 = .ok (.bipush 100, 2) := by decide +kernel
theorem dX4_slotIn_3 : decode cX4_slotIn 3 = .ok (.irem, 1) := by decide +kernel
theorem dX4_slotIn_4 : decode cX4_slotIn 4 = .ok (.ireturn, 1) := by decide +kernel
theorem dX4_targetAt_0 : decode cX4_targetAt 0 = .ok (.iload_n 1, 1) := by decide +kernel
theorem dX4_targetAt_1 : decode cX4_targetAt 1 = .ok (.invokestatic 167, 3) := by decide +kernel
theorem dX4_targetAt_4 : decode cX4_targetAt 4 = .ok (.istore_n 2, 1) := by decide +kernel
theorem dX4_targetAt_5 : decode cX4_targetAt 5 = .ok (.iload_n 1, 1) := by decide +kernel
theorem dX4_targetAt_6 : decode cX4_targetAt 6 = .ok (.invokestatic 170, 3) := by decide +kernel
theorem dX4_targetAt_9 : decode cX4_targetAt 9 = .ok (.istore_n 3, 1) := by decide +kernel
theorem dX4_targetAt_10 : decode cX4_targetAt 10 = .ok (.aload_n 0, 1) := by decide +kernel
theorem dX4_targetAt_11 : decode cX4_targetAt 11 = .ok (.getfield 20, 3) := by decide +kernel
theorem dX4_targetAt_14 : decode cX4_targetAt 14 = .ok (.iload_n 2, 1) := by decide +kernel
theorem dX4_targetAt_15 : decode cX4_targetAt 15 = .ok (.iload_n 3, 1) := by decide +kernel
theorem dX4_targetAt_16 : decode cX4_targetAt 16 = .ok (.iconst 1, 1) := by decide +kernel
theorem dX4_targetAt_17 : decode cX4_targetAt 17 = .ok (.invokevirtual 176, 3) := by decide +kernel
theorem dX4_targetAt_20 : decode cX4_targetAt 20 = .ok (.aload_n 0, 1) := by decide +kernel
theorem dX4_targetAt_21 : decode cX4_targetAt 21 = .ok (.getfield 20, 3) := by decide +kernel
theorem dX4_targetAt_24 : decode cX4_targetAt 24 = .ok (.iload_n 2, 1) := by decide +kernel
theorem dX4_targetAt_25 : decode cX4_targetAt 25 = .ok (.iload_n 3, 1) := by decide +kernel
theorem dX4_targetAt_26 : decode cX4_targetAt 26 = .ok (.iconst 2, 1) := by decide +kernel
theorem dX4_targetAt_27 : decode cX4_targetAt 27 = .ok (.invokevirtual 176, 3) := by decide +kernel
theorem dX4_targetAt_30 : decode cX4_targetAt 30 = .ok (.invokestatic 149, 3) := by decide +kernel
theorem dX4_targetAt_33 : decode cX4_targetAt 33 = .ok (.ireturn, 1) := by decide +kernel
theorem dX4_presentPlace_0 : decode cX4_presentPlace 0 = .ok (.aload_n 0, 1) := by decide +kernel
theorem dX4_presentPlace_1 : decode cX4_presentPlace 1 = .ok (.iload_n 1, 1) := by decide +kernel
theorem dX4_presentPlace_2 : decode cX4_presentPlace 2 = .ok (.invokevirtual 132, 3) := by decide +kernel
theorem dX4_presentPlace_5 : decode cX4_presentPlace 5 = .ok (.iconst 2, 1) := by decide +kernel
theorem dX4_presentPlace_6 : decode cX4_presentPlace 6 = .ok (.if_icmp .ne 11, 3) := by decide +kernel
theorem dX4_presentPlace_9 : decode cX4_presentPlace 9 = .ok (.aload_n 0, 1) := by decide +kernel
theorem dX4_presentPlace_10 : decode cX4_presentPlace 10 = .ok (.iload_n 1, 1) := by decide +kernel
theorem dX4_presentPlace_11 : decode cX4_presentPlace 11 = .ok (.invokevirtual 155, 3) := by decide +kernel
theorem dX4_presentPlace_14 : decode cX4_presentPlace 14 = .ok (.goto 4, 3) := by decide +kernel
theorem dX4_presentPlace_17 : decode cX4_presentPlace 17 = .ok (.iload_n 1, 1) := by decide +kernel
theorem dX4_presentPlace_18 : decode cX4_presentPlace 18 = .ok (.ireturn, 1) := by decide +kernel
theorem dX4_sizeAt_0 : decode cX4_sizeAt 0 = .ok (.aload_n 0, 1) := by decide +kernel
theorem dX4_sizeAt_1 : decode cX4_sizeAt 1 = .ok (.getfield 20, 3) := by decide +kernel
theorem dX4_sizeAt_4 : decode cX4_sizeAt 4 = .ok (.iload_n 1, 1) := by decide +kernel
theorem dX4_sizeAt_5 : decode cX4_sizeAt 5 = .ok (.invokestatic 167, 3) := by decide +kernel
theorem dX4_sizeAt_8 : decode cX4_sizeAt 8 = .ok (.iload_n 1, 1) := by decide +kernel
theorem dX4_sizeAt_9 : decode cX4_sizeAt 9 = .ok (.invokestatic 170, 3) := by decide +kernel
theorem dX4_sizeAt_12 : decode cX4_sizeAt 12 = .ok (.invokevirtual 173, 3) := by decide +kernel
theorem dX4_sizeAt_15 : decode cX4_sizeAt 15 = .ok (.ireturn, 1) := by decide +kernel
theorem dX4_homeSize_0 : decode cX4_homeSize 0 = .ok (.iconst 3, 1) := by decide +kernel
theorem dX4_homeSize_1 : decode cX4_homeSize 1 = .ok (.iload_n 0, 1) := by decide +kernel
theorem dX4_homeSize_2 : decode cX4_homeSize 2 = .ok (.iconst 1, 1) := by decide +kernel
theorem dX4_homeSize_3 : decode cX4_homeSize 3 = .ok (.iadd, 1) := by decide +kernel
theorem dX4_homeSize_4 : decode cX4_homeSize 4 = .ok (.invokestatic 268, 3) := by decide +kernel
theorem dX4_homeSize_7 : decode cX4_homeSize 7 = .ok (.ireturn, 1) := by decide +kernel
theorem dX4_movedSize_0 : decode cX4_movedSize 0 = .ok (.iload_n 0, 1) := by decide +kernel
theorem dX4_movedSize_1 : decode cX4_movedSize 1 = .ok (.iconst 3, 1) := by decide +kernel
theorem dX4_movedSize_2 : decode cX4_movedSize 2 = .ok (.iadd, 1) := by decide +kernel
theorem dX4_movedSize_3 : decode cX4_movedSize 3 = .ok (.ireturn, 1) := by decide +kernel
theorem dX4_lengthAt_0 : decode cX4_lengthAt 0 = .ok (.aload_n 0, 1) := by decide +kernel
theorem dX4_lengthAt_1 : decode cX4_lengthAt 1 = .ok (.iload_n 1, 1) := by decide +kernel
theorem dX4_lengthAt_2 : decode cX4_lengthAt 2 = .ok (.invokevirtual 271, 3) := by decide +kernel
theorem dX4_lengthAt_5 : decode cX4_lengthAt 5 = .ok (.istore_n 2, 1) := by decide +kernel
theorem dX4_lengthAt_6 : decode cX4_lengthAt 6 = .ok (.aload_n 0, 1) := by decide +kernel
theorem dX4_lengthAt_7 : decode cX4_lengthAt 7 = .ok (.getfield 20, 3) := by decide +kernel
theorem dX4_lengthAt_10 : decode cX4_lengthAt 10 = .ok (.iload_n 1, 1) := by decide +kernel
theorem dX4_lengthAt_11 : decode cX4_lengthAt 11 = .ok (.invokestatic 167, 3) := by decide +kernel
theorem dX4_lengthAt_14 : decode cX4_lengthAt 14 = .ok (.iload_n 1, 1) := by decide +kernel
theorem dX4_lengthAt_15 : decode cX4_lengthAt 15 = .ok (.invokestatic 170, 3) := by decide +kernel
theorem dX4_lengthAt_18 : decode cX4_lengthAt 18 = .ok (.iconst 0, 1) := by decide +kernel
theorem dX4_lengthAt_19 : decode cX4_lengthAt 19 = .ok (.invokevirtual 176, 3) := by decide +kernel
theorem dX4_lengthAt_22 : decode cX4_lengthAt 22 = .ok (.tableswitch 34 3 5 #[30, 26, 28], 26) := by decide +kernel
theorem dX4_lengthAt_48 : decode cX4_lengthAt 48 = .ok (.iconst 0, 1) := by decide +kernel
theorem dX4_lengthAt_49 : decode cX4_lengthAt 49 = .ok (.ireturn, 1) := by decide +kernel
theorem dX4_lengthAt_50 : decode cX4_lengthAt 50 = .ok (.iconst 1, 1) := by decide +kernel
theorem dX4_lengthAt_51 : decode cX4_lengthAt 51 = .ok (.ireturn, 1) := by decide +kernel
theorem dX4_lengthAt_52 : decode cX4_lengthAt 52 = .ok (.iload_n 2, 1) := by decide +kernel
theorem dX4_lengthAt_53 : decode cX4_lengthAt 53 = .ok (.iconst 3, 1) := by decide +kernel
theorem dX4_lengthAt_54 : decode cX4_lengthAt 54 = .ok (.isub, 1) := by decide +kernel
theorem dX4_lengthAt_55 : decode cX4_lengthAt 55 = .ok (.ireturn, 1) := by decide +kernel
theorem dX4_lengthAt_56 : decode cX4_lengthAt 56 = .ok (.iload_n 2, 1) := by decide +kernel
theorem dX4_lengthAt_57 : decode cX4_lengthAt 57 = .ok (.iconst 1, 1) := by decide +kernel
theorem dX4_lengthAt_58 : decode cX4_lengthAt 58 = .ok (.isub, 1) := by decide +kernel
theorem dX4_lengthAt_59 : decode cX4_lengthAt 59 = .ok (.ireturn, 1) := by decide +kernel
theorem dX4_rowByteAt_0 : decode cX4_rowByteAt 0 = .ok (.iload_n 1, 1) := by decide +kernel
theorem dX4_rowByteAt_1 : decode cX4_rowByteAt 1 = .ok (.invokestatic 167, 3) := by decide +kernel
theorem dX4_rowByteAt_4 : decode cX4_rowByteAt 4 = .ok (.istore_n 3, 1) := by decide +kernel
theorem dX4_rowByteAt_5 : decode cX4_rowByteAt 5 = .ok (.iload_n 1, 1) := by decide +kernel
theorem dX4_rowByteAt_6 : decode cX4_rowByteAt 6 = .ok (.invokestatic 170, 3) := by decide +kernel
theorem dX4_rowByteAt_9 : decode cX4_rowByteAt 9 = .ok (.istore 4, 2) := by decide +kernel
theorem dX4_rowByteAt_11 : decode cX4_rowByteAt 11 = .ok (.aload_n 0, 1) := by decide +kernel
theorem dX4_rowByteAt_12 : decode cX4_rowByteAt 12 = .ok (.getfield 20, 3) := by decide +kernel
theorem dX4_rowByteAt_15 : decode cX4_rowByteAt 15 = .ok (.iload_n 3, 1) := by decide +kernel
theorem dX4_rowByteAt_16 : decode cX4_rowByteAt 16 = .ok (.iload 4, 2) := by decide +kernel
theorem dX4_rowByteAt_18 : decode cX4_rowByteAt 18 = .ok (.iconst 0, 1) := by decide +kernel
theorem dX4_rowByteAt_19 : decode cX4_rowByteAt 19 = .ok (.invokevirtual 176, 3) := by decide +kernel
theorem dX4_rowByteAt_22 : decode cX4_rowByteAt 22 = .ok (.iconst 3, 1) := by decide +kernel
theorem dX4_rowByteAt_23 : decode cX4_rowByteAt 23 = .ok (.if_icmp .ne 7, 3) := by decide +kernel
theorem dX4_rowByteAt_26 : decode cX4_rowByteAt 26 = .ok (.iconst 3, 1) := by decide +kernel
theorem dX4_rowByteAt_27 : decode cX4_rowByteAt 27 = .ok (.goto 4, 3) := by decide +kernel
theorem dX4_rowByteAt_30 : decode cX4_rowByteAt 30 = .ok (.iconst 1, 1) := by decide +kernel
theorem dX4_rowByteAt_31 : decode cX4_rowByteAt 31 = .ok (.istore 5, 2) := by decide +kernel
theorem dX4_rowByteAt_33 : decode cX4_rowByteAt 33 = .ok (.aload_n 0, 1) := by decide +kernel
theorem dX4_rowByteAt_34 : decode cX4_rowByteAt 34 = .ok (.getfield 20, 3) := by decide +kernel
theorem dX4_rowByteAt_37 : decode cX4_rowByteAt 37 = .ok (.iload_n 3, 1) := by decide +kernel
theorem dX4_rowByteAt_38 : decode cX4_rowByteAt 38 = .ok (.iload 4, 2) := by decide +kernel
theorem dX4_rowByteAt_40 : decode cX4_rowByteAt 40 = .ok (.iload 5, 2) := by decide +kernel
theorem dX4_rowByteAt_42 : decode cX4_rowByteAt 42 = .ok (.iload_n 2, 1) := by decide +kernel
theorem dX4_rowByteAt_43 : decode cX4_rowByteAt 43 = .ok (.iadd, 1) := by decide +kernel
theorem dX4_rowByteAt_44 : decode cX4_rowByteAt 44 = .ok (.invokevirtual 176, 3) := by decide +kernel
theorem dX4_rowByteAt_47 : decode cX4_rowByteAt 47 = .ok (.ireturn, 1) := by decide +kernel
theorem dX4_countKind_0 : decode cX4_countKind 0 = .ok (.iconst 0, 1) := by decide +kernel
theorem dX4_countKind_1 : decode cX4_countKind 1 = .ok (.istore_n 2, 1) := by decide +kernel
theorem dX4_countKind_2 : decode cX4_countKind 2 = .ok (.iconst 0, 1) := by decide +kernel
theorem dX4_countKind_3 : decode cX4_countKind 3 = .ok (.istore_n 3, 1) := by decide +kernel
theorem dX4_countKind_4 : decode cX4_countKind 4 = .ok (.iload_n 3, 1) := by decide +kernel
theorem dX4_countKind_5 : decode cX4_countKind 5 = .ok (.aload_n 0, 1) := by decide +kernel
theorem dX4_countKind_6 : decode cX4_countKind 6 = .ok (.getfield 20, 3) := by decide +kernel
theorem dX4_countKind_9 : decode cX4_countKind 9 = .ok (.getfield 143, 3) := by decide +kernel
theorem dX4_countKind_12 : decode cX4_countKind 12 = .ok (.if_icmp .ge 52, 3) := by decide +kernel
theorem dX4_countKind_15 : decode cX4_countKind 15 = .ok (.aload_n 0, 1) := by decide +kernel
theorem dX4_countKind_16 : decode cX4_countKind 16 = .ok (.getfield 20, 3) := by decide +kernel
theorem dX4_countKind_19 : decode cX4_countKind 19 = .ok (.iload_n 3, 1) := by decide +kernel
theorem dX4_countKind_20 : decode cX4_countKind 20 = .ok (.invokevirtual 146, 3) := by decide +kernel
theorem dX4_countKind_23 : decode cX4_countKind 23 = .ok (.istore 4, 2) := by decide +kernel
theorem dX4_countKind_25 : decode cX4_countKind 25 = .ok (.iconst 0, 1) := by decide +kernel
theorem dX4_countKind_26 : decode cX4_countKind 26 = .ok (.istore 5, 2) := by decide +kernel
theorem dX4_countKind_28 : decode cX4_countKind 28 = .ok (.iload 5, 2) := by decide +kernel
theorem dX4_countKind_30 : decode cX4_countKind 30 = .ok (.iload 4, 2) := by decide +kernel
theorem dX4_countKind_32 : decode cX4_countKind 32 = .ok (.if_icmp .ge 26, 3) := by decide +kernel
theorem dX4_countKind_35 : decode cX4_countKind 35 = .ok (.aload_n 0, 1) := by decide +kernel
theorem dX4_countKind_36 : decode cX4_countKind 36 = .ok (.iload_n 3, 1) := by decide +kernel
theorem dX4_countKind_37 : decode cX4_countKind 37 = .ok (.iload 5, 2) := by decide +kernel
theorem dX4_countKind_39 : decode cX4_countKind 39 = .ok (.invokestatic 149, 3) := by decide +kernel
theorem dX4_countKind_42 : decode cX4_countKind 42 = .ok (.invokevirtual 132, 3) := by decide +kernel
theorem dX4_countKind_45 : decode cX4_countKind 45 = .ok (.iload_n 1, 1) := by decide +kernel
theorem dX4_countKind_46 : decode cX4_countKind 46 = .ok (.if_icmp .ne 6, 3) := by decide +kernel
theorem dX4_countKind_49 : decode cX4_countKind 49 = .ok (.iinc 2 1, 3) := by decide +kernel
theorem dX4_countKind_52 : decode cX4_countKind 52 = .ok (.iinc 5 1, 3) := by decide +kernel
theorem dX4_countKind_55 : decode cX4_countKind 55 = .ok (.goto (-27), 3) := by decide +kernel
theorem dX4_countKind_58 : decode cX4_countKind 58 = .ok (.iinc 3 1, 3) := by decide +kernel
theorem dX4_countKind_61 : decode cX4_countKind 61 = .ok (.goto (-57), 3) := by decide +kernel
theorem dX4_countKind_64 : decode cX4_countKind 64 = .ok (.iload_n 2, 1) := by decide +kernel
theorem dX4_countKind_65 : decode cX4_countKind 65 = .ok (.ireturn, 1) := by decide +kernel
theorem dX4_writeHomeRecord_0 : decode cX4_writeHomeRecord 0 = .ok (.aload_n 0, 1) := by decide +kernel
theorem dX4_writeHomeRecord_1 : decode cX4_writeHomeRecord 1 = .ok (.getfield 33, 3) := by decide +kernel
theorem dX4_writeHomeRecord_4 : decode cX4_writeHomeRecord 4 = .ok (.invokevirtual 58, 3) := by decide +kernel
theorem dX4_writeHomeRecord_7 : decode cX4_writeHomeRecord 7 = .ok (.aload_n 0, 1) := by decide +kernel
theorem dX4_writeHomeRecord_8 : decode cX4_writeHomeRecord 8 = .ok (.getfield 30, 3) := by decide +kernel
theorem dX4_writeHomeRecord_11 : decode cX4_writeHomeRecord 11 = .ok (.getfield 54, 3) := by decide +kernel
theorem dX4_writeHomeRecord_14 : decode cX4_writeHomeRecord 14 = .ok (.ifCond .ne 14, 3) := by decide +kernel
theorem dX4_writeHomeRecord_17 : decode cX4_writeHomeRecord 17 = .ok (.aload_n 0, 1) := by decide +kernel
theorem dX4_writeHomeRecord_18 : decode cX4_writeHomeRecord 18 = .ok (.getfield 33, 3) := by decide +kernel
theorem dX4_writeHomeRecord_21 : decode cX4_writeHomeRecord 21 = .ok (.iconst 4, 1) := by decide +kernel
theorem dX4_writeHomeRecord_22 : decode cX4_writeHomeRecord 22 = .ok (.invokevirtual 75, 3) := by decide +kernel
theorem dX4_writeHomeRecord_25 : decode cX4_writeHomeRecord 25 = .ok (.goto 33, 3) := by decide +kernel
theorem dX4_writeHomeRecord_28 : decode cX4_writeHomeRecord 28 = .ok (.aload_n 0, 1) := by decide +kernel
theorem dX4_writeHomeRecord_29 : decode cX4_writeHomeRecord 29 = .ok (.getfield 30, 3) := by decide +kernel
theorem dX4_writeHomeRecord_32 : decode cX4_writeHomeRecord 32 = .ok (.getfield 54, 3) := by decide +kernel
theorem dX4_writeHomeRecord_35 : decode cX4_writeHomeRecord 35 = .ok (.iconst 1, 1) := by decide +kernel
theorem dX4_writeHomeRecord_36 : decode cX4_writeHomeRecord 36 = .ok (.if_icmp .ne 14, 3) := by decide +kernel
theorem dX4_writeHomeRecord_39 : decode cX4_writeHomeRecord 39 = .ok (.aload_n 0, 1) := by decide +kernel
theorem dX4_writeHomeRecord_40 : decode cX4_writeHomeRecord 40 = .ok (.getfield 33, 3) := by decide +kernel
theorem dX4_writeHomeRecord_43 : decode cX4_writeHomeRecord 43 = .ok (.iconst 5, 1) := by decide +kernel
theorem dX4_writeHomeRecord_44 : decode cX4_writeHomeRecord 44 = .ok (.invokevirtual 75, 3) := by decide +kernel
theorem dX4_writeHomeRecord_47 : decode cX4_writeHomeRecord 47 = .ok (.goto 11, 3) := by decide +kernel
theorem dX4_writeHomeRecord_50 : decode cX4_writeHomeRecord 50 = .ok (.aload_n 0, 1) := by decide +kernel
theorem dX4_writeHomeRecord_51 : decode cX4_writeHomeRecord 51 = .ok (.getfield 33, 3) := by decide +kernel
theorem dX4_writeHomeRecord_54 : decode cX4_writeHomeRecord 54 = .ok (.iconst 1, 1) := by decide +kernel
theorem dX4_writeHomeRecord_55 : decode cX4_writeHomeRecord 55 = .ok (.invokevirtual 75, 3) := by decide +kernel
theorem dX4_writeHomeRecord_58 : decode cX4_writeHomeRecord 58 = .ok (.aload_n 0, 1) := by decide +kernel
theorem dX4_writeHomeRecord_59 : decode cX4_writeHomeRecord 59 = .ok (.getfield 33, 3) := by decide +kernel
theorem dX4_writeHomeRecord_62 : decode cX4_writeHomeRecord 62 = .ok (.aload_n 0, 1) := by decide +kernel
theorem dX4_writeHomeRecord_63 : decode cX4_writeHomeRecord 63 = .ok (.getfield 30, 3) := by decide +kernel
theorem dX4_writeHomeRecord_66 : decode cX4_writeHomeRecord 66 = .ok (.invokevirtual 274, 3) := by decide +kernel
theorem dX4_writeHomeRecord_69 : decode cX4_writeHomeRecord 69 = .ok (.aload_n 0, 1) := by decide +kernel
theorem dX4_writeHomeRecord_70 : decode cX4_writeHomeRecord 70 = .ok (.getfield 33, 3) := by decide +kernel
theorem dX4_writeHomeRecord_73 : decode cX4_writeHomeRecord 73 = .ok (.getfield 54, 3) := by decide +kernel
theorem dX4_writeHomeRecord_76 : decode cX4_writeHomeRecord 76 = .ok (.istore_n 1, 1) := by decide +kernel
theorem dX4_writeHomeRecord_77 : decode cX4_writeHomeRecord 77 = .ok (.iload_n 1, 1) := by decide +kernel
theorem dX4_writeHomeRecord_78 : decode cX4_writeHomeRecord 78 = .ok (.iconst 3, 1) := by decide +kernel
theorem dX4_writeHomeRecord_79 : decode cX4_writeHomeRecord 79 = .ok (.if_icmp .ge 17, 3) := by decide +kernel
theorem dX4_writeHomeRecord_82 : decode cX4_writeHomeRecord 82 = .ok (.aload_n 0, 1) := by decide +kernel
theorem dX4_writeHomeRecord_83 : decode cX4_writeHomeRecord 83 = .ok (.getfield 33, 3) := by decide +kernel
theorem dX4_writeHomeRecord_86 : decode cX4_writeHomeRecord 86 = .ok (.iconst 0, 1) := by decide +kernel
theorem dX4_writeHomeRecord_87 : decode cX4_writeHomeRecord 87 = .ok (.invokevirtual 75, 3) := by decide +kernel
theorem dX4_writeHomeRecord_90 : decode cX4_writeHomeRecord 90 = .ok (.iinc 1 1, 3) := by decide +kernel
theorem dX4_writeHomeRecord_93 : decode cX4_writeHomeRecord 93 = .ok (.goto (-16), 3) := by decide +kernel
theorem dX4_writeHomeRecord_96 : decode cX4_writeHomeRecord 96 = .ok (.return_, 1) := by decide +kernel
theorem dX4_writeHead_0 : decode cX4_writeHead 0 = .ok (.aload_n 0, 1) := by decide +kernel
theorem dX4_writeHead_1 : decode cX4_writeHead 1 = .ok (.getfield 33, 3) := by decide +kernel
theorem dX4_writeHead_4 : decode cX4_writeHead 4 = .ok (.invokevirtual 58, 3) := by decide +kernel
theorem dX4_writeHead_7 : decode cX4_writeHead 7 = .ok (.aload_n 0, 1) := by decide +kernel
theorem dX4_writeHead_8 : decode cX4_writeHead 8 = .ok (.getfield 33, 3) := by decide +kernel
theorem dX4_writeHead_11 : decode cX4_writeHead 11 = .ok (.iload_n 1, 1) := by decide +kernel
theorem dX4_writeHead_12 : decode cX4_writeHead 12 = .ok (.invokevirtual 75, 3) := by decide +kernel
theorem dX4_writeHead_15 : decode cX4_writeHead 15 = .ok (.aload_n 0, 1) := by decide +kernel
theorem dX4_writeHead_16 : decode cX4_writeHead 16 = .ok (.getfield 33, 3) := by decide +kernel
theorem dX4_writeHead_19 : decode cX4_writeHead 19 = .ok (.iload_n 2, 1) := by decide +kernel
theorem dX4_writeHead_20 : decode cX4_writeHead 20 = .ok (.invokestatic 167, 3) := by decide +kernel
theorem dX4_writeHead_23 : decode cX4_writeHead 23 = .ok (.invokevirtual 75, 3) := by decide +kernel
theorem dX4_writeHead_26 : decode cX4_writeHead 26 = .ok (.aload_n 0, 1) := by decide +kernel
theorem dX4_writeHead_27 : decode cX4_writeHead 27 = .ok (.getfield 33, 3) := by decide +kernel
theorem dX4_writeHead_30 : decode cX4_writeHead 30 = .ok (.iload_n 2, 1) := by decide +kernel
theorem dX4_writeHead_31 : decode cX4_writeHead 31 = .ok (.invokestatic 170, 3) := by decide +kernel
theorem dX4_writeHead_34 : decode cX4_writeHead 34 = .ok (.invokevirtual 75, 3) := by decide +kernel
theorem dX4_writeHead_37 : decode cX4_writeHead 37 = .ok (.return_, 1) := by decide +kernel
theorem dX4_writeMovedRecord_0 : decode cX4_writeMovedRecord 0 = .ok (.aload_n 0, 1) := by decide +kernel
theorem dX4_writeMovedRecord_1 : decode cX4_writeMovedRecord 1 = .ok (.iconst 3, 1) := by decide +kernel
theorem dX4_writeMovedRecord_2 : decode cX4_writeMovedRecord 2 = .ok (.iload_n 1, 1) := by decide +kernel
theorem dX4_writeMovedRecord_3 : decode cX4_writeMovedRecord 3 = .ok (.invokevirtual 278, 3) := by decide +kernel
theorem dX4_writeMovedRecord_6 : decode cX4_writeMovedRecord 6 = .ok (.aload_n 0, 1) := by decide +kernel
theorem dX4_writeMovedRecord_7 : decode cX4_writeMovedRecord 7 = .ok (.getfield 33, 3) := by decide +kernel
theorem dX4_writeMovedRecord_10 : decode cX4_writeMovedRecord 10 = .ok (.aload_n 0, 1) := by decide +kernel
theorem dX4_writeMovedRecord_11 : decode cX4_writeMovedRecord 11 = .ok (.getfield 30, 3) := by decide +kernel
theorem dX4_writeMovedRecord_14 : decode cX4_writeMovedRecord 14 = .ok (.invokevirtual 274, 3) := by decide +kernel
theorem dX4_writeMovedRecord_17 : decode cX4_writeMovedRecord 17 = .ok (.return_, 1) := by decide +kernel
theorem dX4_insertContent_0 : decode cX4_insertContent 0 = .ok (.aload_n 0, 1) := by decide +kernel
theorem dX4_insertContent_1 : decode cX4_insertContent 1 = .ok (.getfield 12, 3) := by decide +kernel
theorem dX4_insertContent_4 : decode cX4_insertContent 4 = .ok (.iload_n 1, 1) := by decide +kernel
theorem dX4_insertContent_5 : decode cX4_insertContent 5 = .ok (.invokevirtual 281, 3) := by decide +kernel
theorem dX4_insertContent_8 : decode cX4_insertContent 8 = .ok (.iload_n 1, 1) := by decide +kernel
theorem dX4_insertContent_9 : decode cX4_insertContent 9 = .ok (.aload_n 0, 1) := by decide +kernel
theorem dX4_insertContent_10 : decode cX4_insertContent 10 = .ok (.getfield 12, 3) := by decide +kernel
theorem dX4_insertContent_13 : decode cX4_insertContent 13 = .ok (.iload_n 1, 1) := by decide +kernel
theorem dX4_insertContent_14 : decode cX4_insertContent 14 = .ok (.invokevirtual 194, 3) := by decide +kernel
theorem dX4_insertContent_17 : decode cX4_insertContent 17 = .ok (.invokestatic 149, 3) := by decide +kernel
theorem dX4_insertContent_20 : decode cX4_insertContent 20 = .ok (.istore_n 2, 1) := by decide +kernel
theorem dX4_insertContent_21 : decode cX4_insertContent 21 = .ok (.aload_n 0, 1) := by decide +kernel
theorem dX4_insertContent_22 : decode cX4_insertContent 22 = .ok (.invokevirtual 284, 3) := by decide +kernel
theorem dX4_insertContent_25 : decode cX4_insertContent 25 = .ok (.aload_n 0, 1) := by decide +kernel
theorem dX4_insertContent_26 : decode cX4_insertContent 26 = .ok (.getfield 12, 3) := by decide +kernel
theorem dX4_insertContent_29 : decode cX4_insertContent 29 = .ok (.iload_n 2, 1) := by decide +kernel
theorem dX4_insertContent_30 : decode cX4_insertContent 30 = .ok (.aload_n 0, 1) := by decide +kernel
theorem dX4_insertContent_31 : decode cX4_insertContent 31 = .ok (.getfield 33, 3) := by decide +kernel
theorem dX4_insertContent_34 : decode cX4_insertContent 34 = .ok (.invokevirtual 287, 3) := by decide +kernel
theorem dX4_insertContent_37 : decode cX4_insertContent 37 = .ok (.iload_n 2, 1) := by decide +kernel
theorem dX4_insertContent_38 : decode cX4_insertContent 38 = .ok (.ireturn, 1) := by decide +kernel
theorem dX4_roomToReplace_0 : decode cX4_roomToReplace 0 = .ok (.aload_n 0, 1) := by decide +kernel
theorem dX4_roomToReplace_1 : decode cX4_roomToReplace 1 = .ok (.getfield 12, 3) := by decide +kernel
theorem dX4_roomToReplace_4 : decode cX4_roomToReplace 4 = .ok (.iload_n 1, 1) := by decide +kernel
theorem dX4_roomToReplace_5 : decode cX4_roomToReplace 5 = .ok (.invokestatic 167, 3) := by decide +kernel
theorem dX4_roomToReplace_8 : decode cX4_roomToReplace 8 = .ok (.invokevirtual 161, 3) := by decide +kernel
theorem dX4_roomToReplace_11 : decode cX4_roomToReplace 11 = .ok (.aload_n 0, 1) := by decide +kernel
theorem dX4_roomToReplace_12 : decode cX4_roomToReplace 12 = .ok (.iload_n 1, 1) := by decide +kernel
theorem dX4_roomToReplace_13 : decode cX4_roomToReplace 13 = .ok (.invokevirtual 271, 3) := by decide +kernel
theorem dX4_roomToReplace_16 : decode cX4_roomToReplace 16 = .ok (.iadd, 1) := by decide +kernel
theorem dX4_roomToReplace_17 : decode cX4_roomToReplace 17 = .ok (.ireturn, 1) := by decide +kernel
theorem dX4_wayToChange_0 : decode cX4_wayToChange 0 = .ok (.iload_n 2, 1) := by decide +kernel
theorem dX4_wayToChange_1 : decode cX4_wayToChange 1 = .ok (.invokestatic 78, 3) := by decide +kernel
theorem dX4_wayToChange_4 : decode cX4_wayToChange 4 = .ok (.aload_n 0, 1) := by decide +kernel
theorem dX4_wayToChange_5 : decode cX4_wayToChange 5 = .ok (.iload_n 1, 1) := by decide +kernel
theorem dX4_wayToChange_6 : decode cX4_wayToChange 6 = .ok (.invokevirtual 197, 3) := by decide +kernel
theorem dX4_wayToChange_9 : decode cX4_wayToChange 9 = .ok (.if_icmp .gt 5, 3) := by decide +kernel
theorem dX4_wayToChange_12 : decode cX4_wayToChange 12 = .ok (.iconst 1, 1) := by decide +kernel
theorem dX4_wayToChange_13 : decode cX4_wayToChange 13 = .ok (.ireturn, 1) := by decide +kernel
theorem dX4_wayToChange_14 : decode cX4_wayToChange 14 = .ok (.aload_n 0, 1) := by decide +kernel
theorem dX4_wayToChange_15 : decode cX4_wayToChange 15 = .ok (.iload_n 1, 1) := by decide +kernel
theorem dX4_wayToChange_16 : decode cX4_wayToChange 16 = .ok (.invokevirtual 110, 3) := by decide +kernel
theorem dX4_wayToChange_19 : decode cX4_wayToChange 19 = .ok (.istore_n 3, 1) := by decide +kernel
theorem dX4_wayToChange_20 : decode cX4_wayToChange 20 = .ok (.iload_n 2, 1) := by decide +kernel
theorem dX4_wayToChange_21 : decode cX4_wayToChange 21 = .ok (.invokestatic 291, 3) := by decide +kernel
theorem dX4_wayToChange_24 : decode cX4_wayToChange 24 = .ok (.istore 4, 2) := by decide +kernel
theorem dX4_wayToChange_26 : decode cX4_wayToChange 26 = .ok (.iload_n 3, 1) := by decide +kernel
theorem dX4_wayToChange_27 : decode cX4_wayToChange 27 = .ok (.iload_n 1, 1) := by decide +kernel
theorem dX4_wayToChange_28 : decode cX4_wayToChange 28 = .ok (.if_icmp .eq 15, 3) := by decide +kernel
theorem dX4_wayToChange_31 : decode cX4_wayToChange 31 = .ok (.iload 4, 2) := by decide +kernel
theorem dX4_wayToChange_33 : decode cX4_wayToChange 33 = .ok (.aload_n 0, 1) := by decide +kernel
theorem dX4_wayToChange_34 : decode cX4_wayToChange 34 = .ok (.iload_n 3, 1) := by decide +kernel
theorem dX4_wayToChange_35 : decode cX4_wayToChange 35 = .ok (.invokevirtual 197, 3) := by decide +kernel
theorem dX4_wayToChange_38 : decode cX4_wayToChange 38 = .ok (.if_icmp .gt 5, 3) := by decide +kernel
theorem dX4_wayToChange_41 : decode cX4_wayToChange 41 = .ok (.iconst 2, 1) := by decide +kernel
theorem dX4_wayToChange_42 : decode cX4_wayToChange 42 = .ok (.ireturn, 1) := by decide +kernel
theorem dX4_wayToChange_43 : decode cX4_wayToChange 43 = .ok (.aload_n 0, 1) := by decide +kernel
theorem dX4_wayToChange_44 : decode cX4_wayToChange 44 = .ok (.getfield 12, 3) := by decide +kernel
theorem dX4_wayToChange_47 : decode cX4_wayToChange 47 = .ok (.iload 4, 2) := by decide +kernel
theorem dX4_wayToChange_49 : decode cX4_wayToChange 49 = .ok (.iload_n 1, 1) := by decide +kernel
theorem dX4_wayToChange_50 : decode cX4_wayToChange 50 = .ok (.invokestatic 167, 3) := by decide +kernel
theorem dX4_wayToChange_53 : decode cX4_wayToChange 53 = .ok (.iload_n 3, 1) := by decide +kernel
theorem dX4_wayToChange_54 : decode cX4_wayToChange 54 = .ok (.invokestatic 167, 3) := by decide +kernel
theorem dX4_wayToChange_57 : decode cX4_wayToChange 57 = .ok (.invokevirtual 82, 3) := by decide +kernel
theorem dX4_wayToChange_60 : decode cX4_wayToChange 60 = .ok (.iconst (-1), 1) := by decide +kernel
theorem dX4_wayToChange_61 : decode cX4_wayToChange 61 = .ok (.if_icmp .ne 7, 3) := by decide +kernel
theorem dX4_wayToChange_64 : decode cX4_wayToChange 64 = .ok (.iconst (-1), 1) := by decide +kernel
theorem dX4_wayToChange_65 : decode cX4_wayToChange 65 = .ok (.goto 4, 3) := by decide +kernel
theorem dX4_wayToChange_68 : decode cX4_wayToChange 68 = .ok (.iconst 3, 1) := by decide +kernel
theorem dX4_wayToChange_69 : decode cX4_wayToChange 69 = .ok (.ireturn, 1) := by decide +kernel
theorem dX4_changeRow_0 : decode cX4_changeRow 0 = .ok (.aload_n 0, 1) := by decide +kernel
theorem dX4_changeRow_1 : decode cX4_changeRow 1 = .ok (.iload_n 1, 1) := by decide +kernel
theorem dX4_changeRow_2 : decode cX4_changeRow 2 = .ok (.invokevirtual 110, 3) := by decide +kernel
theorem dX4_changeRow_5 : decode cX4_changeRow 5 = .ok (.istore_n 3, 1) := by decide +kernel
theorem dX4_changeRow_6 : decode cX4_changeRow 6 = .ok (.iload_n 2, 1) := by decide +kernel
theorem dX4_changeRow_7 : decode cX4_changeRow 7 = .ok (.iconst 1, 1) := by decide +kernel
theorem dX4_changeRow_8 : decode cX4_changeRow 8 = .ok (.if_icmp .ne 10, 3) := by decide +kernel
theorem dX4_changeRow_11 : decode cX4_changeRow 11 = .ok (.aload_n 0, 1) := by decide +kernel
theorem dX4_changeRow_12 : decode cX4_changeRow 12 = .ok (.iload_n 1, 1) := by decide +kernel
theorem dX4_changeRow_13 : decode cX4_changeRow 13 = .ok (.iload_n 3, 1) := by decide +kernel
theorem dX4_changeRow_14 : decode cX4_changeRow 14 = .ok (.invokevirtual 294, 3) := by decide +kernel
theorem dX4_changeRow_17 : decode cX4_changeRow 17 = .ok (.return_, 1) := by decide +kernel
theorem dX4_changeRow_18 : decode cX4_changeRow 18 = .ok (.aload_n 0, 1) := by decide +kernel
theorem dX4_changeRow_19 : decode cX4_changeRow 19 = .ok (.iload_n 1, 1) := by decide +kernel
theorem dX4_changeRow_20 : decode cX4_changeRow 20 = .ok (.invokevirtual 297, 3) := by decide +kernel
theorem dX4_changeRow_23 : decode cX4_changeRow 23 = .ok (.iload_n 2, 1) := by decide +kernel
theorem dX4_changeRow_24 : decode cX4_changeRow 24 = .ok (.iconst 2, 1) := by decide +kernel
theorem dX4_changeRow_25 : decode cX4_changeRow 25 = .ok (.if_icmp .ne 16, 3) := by decide +kernel
theorem dX4_changeRow_28 : decode cX4_changeRow 28 = .ok (.aload_n 0, 1) := by decide +kernel
theorem dX4_changeRow_29 : decode cX4_changeRow 29 = .ok (.getfield 12, 3) := by decide +kernel
theorem dX4_changeRow_32 : decode cX4_changeRow 32 = .ok (.iload_n 3, 1) := by decide +kernel
theorem dX4_changeRow_33 : decode cX4_changeRow 33 = .ok (.aload_n 0, 1) := by decide +kernel
theorem dX4_changeRow_34 : decode cX4_changeRow 34 = .ok (.getfield 33, 3) := by decide +kernel
theorem dX4_changeRow_37 : decode cX4_changeRow 37 = .ok (.invokevirtual 287, 3) := by decide +kernel
theorem dX4_changeRow_40 : decode cX4_changeRow 40 = .ok (.return_, 1) := by decide +kernel
theorem dX4_changeRow_41 : decode cX4_changeRow 41 = .ok (.aload_n 0, 1) := by decide +kernel
theorem dX4_changeRow_42 : decode cX4_changeRow 42 = .ok (.getfield 12, 3) := by decide +kernel
theorem dX4_changeRow_45 : decode cX4_changeRow 45 = .ok (.aload_n 0, 1) := by decide +kernel
theorem dX4_changeRow_46 : decode cX4_changeRow 46 = .ok (.getfield 33, 3) := by decide +kernel
theorem dX4_changeRow_49 : decode cX4_changeRow 49 = .ok (.getfield 54, 3) := by decide +kernel
theorem dX4_changeRow_52 : decode cX4_changeRow 52 = .ok (.iload_n 1, 1) := by decide +kernel
theorem dX4_changeRow_53 : decode cX4_changeRow 53 = .ok (.invokestatic 167, 3) := by decide +kernel
theorem dX4_changeRow_56 : decode cX4_changeRow 56 = .ok (.iload_n 3, 1) := by decide +kernel
theorem dX4_changeRow_57 : decode cX4_changeRow 57 = .ok (.invokestatic 167, 3) := by decide +kernel
theorem dX4_changeRow_60 : decode cX4_changeRow 60 = .ok (.invokevirtual 82, 3) := by decide +kernel
theorem dX4_changeRow_63 : decode cX4_changeRow 63 = .ok (.istore 4, 2) := by decide +kernel
theorem dX4_changeRow_65 : decode cX4_changeRow 65 = .ok (.aload_n 0, 1) := by decide +kernel
theorem dX4_changeRow_66 : decode cX4_changeRow 66 = .ok (.getfield 12, 3) := by decide +kernel
theorem dX4_changeRow_69 : decode cX4_changeRow 69 = .ok (.iload 4, 2) := by decide +kernel
theorem dX4_changeRow_71 : decode cX4_changeRow 71 = .ok (.invokevirtual 281, 3) := by decide +kernel
theorem dX4_changeRow_74 : decode cX4_changeRow 74 = .ok (.iload 4, 2) := by decide +kernel
theorem dX4_changeRow_76 : decode cX4_changeRow 76 = .ok (.aload_n 0, 1) := by decide +kernel
theorem dX4_changeRow_77 : decode cX4_changeRow 77 = .ok (.getfield 12, 3) := by decide +kernel
theorem dX4_changeRow_80 : decode cX4_changeRow 80 = .ok (.iload 4, 2) := by decide +kernel
theorem dX4_changeRow_82 : decode cX4_changeRow 82 = .ok (.invokevirtual 194, 3) := by decide +kernel
theorem dX4_changeRow_85 : decode cX4_changeRow 85 = .ok (.invokestatic 149, 3) := by decide +kernel
theorem dX4_changeRow_88 : decode cX4_changeRow 88 = .ok (.istore 5, 2) := by decide +kernel
theorem dX4_changeRow_90 : decode cX4_changeRow 90 = .ok (.aload_n 0, 1) := by decide +kernel
theorem dX4_changeRow_91 : decode cX4_changeRow 91 = .ok (.getfield 12, 3) := by decide +kernel
theorem dX4_changeRow_94 : decode cX4_changeRow 94 = .ok (.iload 5, 2) := by decide +kernel
theorem dX4_changeRow_96 : decode cX4_changeRow 96 = .ok (.aload_n 0, 1) := by decide +kernel
theorem dX4_changeRow_97 : decode cX4_changeRow 97 = .ok (.getfield 33, 3) := by decide +kernel
theorem dX4_changeRow_100 : decode cX4_changeRow 100 = .ok (.invokevirtual 287, 3) := by decide +kernel
theorem dX4_changeRow_103 : decode cX4_changeRow 103 = .ok (.aload_n 0, 1) := by decide +kernel
theorem dX4_changeRow_104 : decode cX4_changeRow 104 = .ok (.iload_n 1, 1) := by decide +kernel
theorem dX4_changeRow_105 : decode cX4_changeRow 105 = .ok (.iload_n 3, 1) := by decide +kernel
theorem dX4_changeRow_106 : decode cX4_changeRow 106 = .ok (.iload 5, 2) := by decide +kernel
theorem dX4_changeRow_108 : decode cX4_changeRow 108 = .ok (.invokevirtual 300, 3) := by decide +kernel
theorem dX4_changeRow_111 : decode cX4_changeRow 111 = .ok (.aload_n 0, 1) := by decide +kernel
theorem dX4_changeRow_112 : decode cX4_changeRow 112 = .ok (.getfield 20, 3) := by decide +kernel
theorem dX4_changeRow_115 : decode cX4_changeRow 115 = .ok (.dup, 1) := by decide +kernel
theorem dX4_changeRow_116 : decode cX4_changeRow 116 = .ok (.getfield 179, 3) := by decide +kernel
theorem dX4_changeRow_119 : decode cX4_changeRow 119 = .ok (.iconst 1, 1) := by decide +kernel
theorem dX4_changeRow_120 : decode cX4_changeRow 120 = .ok (.iadd, 1) := by decide +kernel
theorem dX4_changeRow_121 : decode cX4_changeRow 121 = .ok (.putfield 179, 3) := by decide +kernel
theorem dX4_changeRow_124 : decode cX4_changeRow 124 = .ok (.return_, 1) := by decide +kernel
theorem dX4_storeAtHome_0 : decode cX4_storeAtHome 0 = .ok (.iload_n 2, 1) := by decide +kernel
theorem dX4_storeAtHome_1 : decode cX4_storeAtHome 1 = .ok (.iload_n 1, 1) := by decide +kernel
theorem dX4_storeAtHome_2 : decode cX4_storeAtHome 2 = .ok (.if_icmp .eq 24, 3) := by decide +kernel
theorem dX4_storeAtHome_5 : decode cX4_storeAtHome 5 = .ok (.aload_n 0, 1) := by decide +kernel
theorem dX4_storeAtHome_6 : decode cX4_storeAtHome 6 = .ok (.getfield 12, 3) := by decide +kernel
theorem dX4_storeAtHome_9 : decode cX4_storeAtHome 9 = .ok (.iload_n 2, 1) := by decide +kernel
theorem dX4_storeAtHome_10 : decode cX4_storeAtHome 10 = .ok (.invokevirtual 304, 3) := by decide +kernel
theorem dX4_storeAtHome_13 : decode cX4_storeAtHome 13 = .ok (.aload_n 0, 1) := by decide +kernel
theorem dX4_storeAtHome_14 : decode cX4_storeAtHome 14 = .ok (.getfield 20, 3) := by decide +kernel
theorem dX4_storeAtHome_17 : decode cX4_storeAtHome 17 = .ok (.dup, 1) := by decide +kernel
theorem dX4_storeAtHome_18 : decode cX4_storeAtHome 18 = .ok (.getfield 182, 3) := by decide +kernel
theorem dX4_storeAtHome_21 : decode cX4_storeAtHome 21 = .ok (.iconst 1, 1) := by decide +kernel
theorem dX4_storeAtHome_22 : decode cX4_storeAtHome 22 = .ok (.iadd, 1) := by decide +kernel
theorem dX4_storeAtHome_23 : decode cX4_storeAtHome 23 = .ok (.putfield 182, 3) := by decide +kernel
theorem dX4_storeAtHome_26 : decode cX4_storeAtHome 26 = .ok (.aload_n 0, 1) := by decide +kernel
theorem dX4_storeAtHome_27 : decode cX4_storeAtHome 27 = .ok (.invokevirtual 284, 3) := by decide +kernel
theorem dX4_storeAtHome_30 : decode cX4_storeAtHome 30 = .ok (.aload_n 0, 1) := by decide +kernel
theorem dX4_storeAtHome_31 : decode cX4_storeAtHome 31 = .ok (.getfield 12, 3) := by decide +kernel
theorem dX4_storeAtHome_34 : decode cX4_storeAtHome 34 = .ok (.iload_n 1, 1) := by decide +kernel
theorem dX4_storeAtHome_35 : decode cX4_storeAtHome 35 = .ok (.aload_n 0, 1) := by decide +kernel
theorem dX4_storeAtHome_36 : decode cX4_storeAtHome 36 = .ok (.getfield 33, 3) := by decide +kernel
theorem dX4_storeAtHome_39 : decode cX4_storeAtHome 39 = .ok (.invokevirtual 287, 3) := by decide +kernel
theorem dX4_storeAtHome_42 : decode cX4_storeAtHome 42 = .ok (.return_, 1) := by decide +kernel
theorem dX4_leaveNote_0 : decode cX4_leaveNote 0 = .ok (.iload_n 2, 1) := by decide +kernel
theorem dX4_leaveNote_1 : decode cX4_leaveNote 1 = .ok (.iload_n 1, 1) := by decide +kernel
theorem dX4_leaveNote_2 : decode cX4_leaveNote 2 = .ok (.if_icmp .ne 22, 3) := by decide +kernel
theorem dX4_leaveNote_5 : decode cX4_leaveNote 5 = .ok (.aload_n 0, 1) := by decide +kernel
theorem dX4_leaveNote_6 : decode cX4_leaveNote 6 = .ok (.iconst 2, 1) := by decide +kernel
theorem dX4_leaveNote_7 : decode cX4_leaveNote 7 = .ok (.iload_n 3, 1) := by decide +kernel
theorem dX4_leaveNote_8 : decode cX4_leaveNote 8 = .ok (.invokevirtual 278, 3) := by decide +kernel
theorem dX4_leaveNote_11 : decode cX4_leaveNote 11 = .ok (.aload_n 0, 1) := by decide +kernel
theorem dX4_leaveNote_12 : decode cX4_leaveNote 12 = .ok (.getfield 12, 3) := by decide +kernel
theorem dX4_leaveNote_15 : decode cX4_leaveNote 15 = .ok (.iload_n 1, 1) := by decide +kernel
theorem dX4_leaveNote_16 : decode cX4_leaveNote 16 = .ok (.aload_n 0, 1) := by decide +kernel
theorem dX4_leaveNote_17 : decode cX4_leaveNote 17 = .ok (.getfield 33, 3) := by decide +kernel
theorem dX4_leaveNote_20 : decode cX4_leaveNote 20 = .ok (.invokevirtual 287, 3) := by decide +kernel
theorem dX4_leaveNote_23 : decode cX4_leaveNote 23 = .ok (.return_, 1) := by decide +kernel
theorem dX4_leaveNote_24 : decode cX4_leaveNote 24 = .ok (.aload_n 0, 1) := by decide +kernel
theorem dX4_leaveNote_25 : decode cX4_leaveNote 25 = .ok (.getfield 12, 3) := by decide +kernel
theorem dX4_leaveNote_28 : decode cX4_leaveNote 28 = .ok (.iload_n 2, 1) := by decide +kernel
theorem dX4_leaveNote_29 : decode cX4_leaveNote 29 = .ok (.invokevirtual 304, 3) := by decide +kernel
theorem dX4_leaveNote_32 : decode cX4_leaveNote 32 = .ok (.aload_n 0, 1) := by decide +kernel
theorem dX4_leaveNote_33 : decode cX4_leaveNote 33 = .ok (.getfield 20, 3) := by decide +kernel
theorem dX4_leaveNote_36 : decode cX4_leaveNote 36 = .ok (.iload_n 1, 1) := by decide +kernel
theorem dX4_leaveNote_37 : decode cX4_leaveNote 37 = .ok (.invokestatic 167, 3) := by decide +kernel
theorem dX4_leaveNote_40 : decode cX4_leaveNote 40 = .ok (.iload_n 1, 1) := by decide +kernel
theorem dX4_leaveNote_41 : decode cX4_leaveNote 41 = .ok (.invokestatic 170, 3) := by decide +kernel
theorem dX4_leaveNote_44 : decode cX4_leaveNote 44 = .ok (.iconst 1, 1) := by decide +kernel
theorem dX4_leaveNote_45 : decode cX4_leaveNote 45 = .ok (.iload_n 3, 1) := by decide +kernel
theorem dX4_leaveNote_46 : decode cX4_leaveNote 46 = .ok (.invokestatic 167, 3) := by decide +kernel
theorem dX4_leaveNote_49 : decode cX4_leaveNote 49 = .ok (.invokevirtual 307, 3) := by decide +kernel
theorem dX4_leaveNote_52 : decode cX4_leaveNote 52 = .ok (.aload_n 0, 1) := by decide +kernel
theorem dX4_leaveNote_53 : decode cX4_leaveNote 53 = .ok (.getfield 20, 3) := by decide +kernel
theorem dX4_leaveNote_56 : decode cX4_leaveNote 56 = .ok (.iload_n 1, 1) := by decide +kernel
theorem dX4_leaveNote_57 : decode cX4_leaveNote 57 = .ok (.invokestatic 167, 3) := by decide +kernel
theorem dX4_leaveNote_60 : decode cX4_leaveNote 60 = .ok (.iload_n 1, 1) := by decide +kernel
theorem dX4_leaveNote_61 : decode cX4_leaveNote 61 = .ok (.invokestatic 170, 3) := by decide +kernel
theorem dX4_leaveNote_64 : decode cX4_leaveNote 64 = .ok (.iconst 2, 1) := by decide +kernel
theorem dX4_leaveNote_65 : decode cX4_leaveNote 65 = .ok (.iload_n 3, 1) := by decide +kernel
theorem dX4_leaveNote_66 : decode cX4_leaveNote 66 = .ok (.invokestatic 170, 3) := by decide +kernel
theorem dX4_leaveNote_69 : decode cX4_leaveNote 69 = .ok (.invokevirtual 307, 3) := by decide +kernel
theorem dX4_leaveNote_72 : decode cX4_leaveNote 72 = .ok (.return_, 1) := by decide +kernel
theorem dX4_deleteRow_0 : decode cX4_deleteRow 0 = .ok (.aload_n 0, 1) := by decide +kernel
theorem dX4_deleteRow_1 : decode cX4_deleteRow 1 = .ok (.iload_n 1, 1) := by decide +kernel
theorem dX4_deleteRow_2 : decode cX4_deleteRow 2 = .ok (.invokevirtual 110, 3) := by decide +kernel
theorem dX4_deleteRow_5 : decode cX4_deleteRow 5 = .ok (.istore_n 2, 1) := by decide +kernel
theorem dX4_deleteRow_6 : decode cX4_deleteRow 6 = .ok (.aload_n 0, 1) := by decide +kernel
theorem dX4_deleteRow_7 : decode cX4_deleteRow 7 = .ok (.getfield 12, 3) := by decide +kernel
theorem dX4_deleteRow_10 : decode cX4_deleteRow 10 = .ok (.iload_n 2, 1) := by decide +kernel
theorem dX4_deleteRow_11 : decode cX4_deleteRow 11 = .ok (.invokevirtual 304, 3) := by decide +kernel
theorem dX4_deleteRow_14 : decode cX4_deleteRow 14 = .ok (.iload_n 2, 1) := by decide +kernel
theorem dX4_deleteRow_15 : decode cX4_deleteRow 15 = .ok (.iload_n 1, 1) := by decide +kernel
theorem dX4_deleteRow_16 : decode cX4_deleteRow 16 = .ok (.if_icmp .eq 11, 3) := by decide +kernel
theorem dX4_deleteRow_19 : decode cX4_deleteRow 19 = .ok (.aload_n 0, 1) := by decide +kernel
theorem dX4_deleteRow_20 : decode cX4_deleteRow 20 = .ok (.getfield 12, 3) := by decide +kernel
theorem dX4_deleteRow_23 : decode cX4_deleteRow 23 = .ok (.iload_n 1, 1) := by decide +kernel
theorem dX4_deleteRow_24 : decode cX4_deleteRow 24 = .ok (.invokevirtual 304, 3) := by decide +kernel
theorem dX4_deleteRow_27 : decode cX4_deleteRow 27 = .ok (.return_, 1) := by decide +kernel
theorem dX4_bringAllHome_0 : decode cX4_bringAllHome 0 = .ok (.iconst 0, 1) := by decide +kernel
theorem dX4_bringAllHome_1 : decode cX4_bringAllHome 1 = .ok (.istore_n 1, 1) := by decide +kernel
theorem dX4_bringAllHome_2 : decode cX4_bringAllHome 2 = .ok (.iconst 0, 1) := by decide +kernel
theorem dX4_bringAllHome_3 : decode cX4_bringAllHome 3 = .ok (.istore_n 2, 1) := by decide +kernel
theorem dX4_bringAllHome_4 : decode cX4_bringAllHome 4 = .ok (.iload_n 2, 1) := by decide +kernel
theorem dX4_bringAllHome_5 : decode cX4_bringAllHome 5 = .ok (.aload_n 0, 1) := by decide +kernel
theorem dX4_bringAllHome_6 : decode cX4_bringAllHome 6 = .ok (.getfield 20, 3) := by decide +kernel
theorem dX4_bringAllHome_9 : decode cX4_bringAllHome 9 = .ok (.getfield 143, 3) := by decide +kernel
theorem dX4_bringAllHome_12 : decode cX4_bringAllHome 12 = .ok (.if_icmp .ge 75, 3) := by decide +kernel
theorem dX4_bringAllHome_15 : decode cX4_bringAllHome 15 = .ok (.aload_n 0, 1) := by decide +kernel
theorem dX4_bringAllHome_16 : decode cX4_bringAllHome 16 = .ok (.getfield 20, 3) := by decide +kernel
theorem dX4_bringAllHome_19 : decode cX4_bringAllHome 19 = .ok (.iload_n 2, 1) := by decide +kernel
theorem dX4_bringAllHome_20 : decode cX4_bringAllHome 20 = .ok (.invokevirtual 146, 3) := by decide +kernel
theorem dX4_bringAllHome_23 : decode cX4_bringAllHome 23 = .ok (.istore_n 3, 1) := by decide +kernel
theorem dX4_bringAllHome_24 : decode cX4_bringAllHome 24 = .ok (.iconst 0, 1) := by decide +kernel
theorem dX4_bringAllHome_25 : decode cX4_bringAllHome 25 = .ok (.istore 4, 2) := by decide +kernel
theorem dX4_bringAllHome_27 : decode cX4_bringAllHome 27 = .ok (.iload 4, 2) := by decide +kernel
theorem dX4_bringAllHome_29 : decode cX4_bringAllHome 29 = .ok (.iload_n 3, 1) := by decide +kernel
theorem dX4_bringAllHome_30 : decode cX4_bringAllHome 30 = .ok (.if_icmp .ge 51, 3) := by decide +kernel
theorem dX4_bringAllHome_33 : decode cX4_bringAllHome 33 = .ok (.iload_n 2, 1) := by decide +kernel
theorem dX4_bringAllHome_34 : decode cX4_bringAllHome 34 = .ok (.iload 4, 2) := by decide +kernel
theorem dX4_bringAllHome_36 : decode cX4_bringAllHome 36 = .ok (.invokestatic 149, 3) := by decide +kernel
theorem dX4_bringAllHome_39 : decode cX4_bringAllHome 39 = .ok (.istore 5, 2) := by decide +kernel
theorem dX4_bringAllHome_41 : decode cX4_bringAllHome 41 = .ok (.aload_n 0, 1) := by decide +kernel
theorem dX4_bringAllHome_42 : decode cX4_bringAllHome 42 = .ok (.iload 5, 2) := by decide +kernel
theorem dX4_bringAllHome_44 : decode cX4_bringAllHome 44 = .ok (.invokevirtual 311, 3) := by decide +kernel
theorem dX4_bringAllHome_47 : decode cX4_bringAllHome 47 = .ok (.ifCond .eq 28, 3) := by decide +kernel
theorem dX4_bringAllHome_50 : decode cX4_bringAllHome 50 = .ok (.aload_n 0, 1) := by decide +kernel
theorem dX4_bringAllHome_51 : decode cX4_bringAllHome 51 = .ok (.iload 5, 2) := by decide +kernel
theorem dX4_bringAllHome_53 : decode cX4_bringAllHome 53 = .ok (.invokevirtual 155, 3) := by decide +kernel
theorem dX4_bringAllHome_56 : decode cX4_bringAllHome 56 = .ok (.istore 6, 2) := by decide +kernel
theorem dX4_bringAllHome_58 : decode cX4_bringAllHome 58 = .ok (.aload_n 0, 1) := by decide +kernel
theorem dX4_bringAllHome_59 : decode cX4_bringAllHome 59 = .ok (.iload 6, 2) := by decide +kernel
theorem dX4_bringAllHome_61 : decode cX4_bringAllHome 61 = .ok (.invokevirtual 314, 3) := by decide +kernel
theorem dX4_bringAllHome_64 : decode cX4_bringAllHome 64 = .ok (.aload_n 0, 1) := by decide +kernel
theorem dX4_bringAllHome_65 : decode cX4_bringAllHome 65 = .ok (.iload 5, 2) := by decide +kernel
theorem dX4_bringAllHome_67 : decode cX4_bringAllHome 67 = .ok (.iload 6, 2) := by decide +kernel
theorem dX4_bringAllHome_69 : decode cX4_bringAllHome 69 = .ok (.invokevirtual 294, 3) := by decide +kernel
theorem dX4_bringAllHome_72 : decode cX4_bringAllHome 72 = .ok (.iinc 1 1, 3) := by decide +kernel
theorem dX4_bringAllHome_75 : decode cX4_bringAllHome 75 = .ok (.iinc 4 1, 3) := by decide +kernel
theorem dX4_bringAllHome_78 : decode cX4_bringAllHome 78 = .ok (.goto (-51), 3) := by decide +kernel
theorem dX4_bringAllHome_81 : decode cX4_bringAllHome 81 = .ok (.iinc 2 1, 3) := by decide +kernel
theorem dX4_bringAllHome_84 : decode cX4_bringAllHome 84 = .ok (.goto (-80), 3) := by decide +kernel
theorem dX4_bringAllHome_87 : decode cX4_bringAllHome 87 = .ok (.iload_n 1, 1) := by decide +kernel
theorem dX4_bringAllHome_88 : decode cX4_bringAllHome 88 = .ok (.ireturn, 1) := by decide +kernel
theorem dX4_mayReturn_0 : decode cX4_mayReturn 0 = .ok (.aload_n 0, 1) := by decide +kernel
theorem dX4_mayReturn_1 : decode cX4_mayReturn 1 = .ok (.iload_n 1, 1) := by decide +kernel
theorem dX4_mayReturn_2 : decode cX4_mayReturn 2 = .ok (.invokevirtual 132, 3) := by decide +kernel
theorem dX4_mayReturn_5 : decode cX4_mayReturn 5 = .ok (.iconst 2, 1) := by decide +kernel
theorem dX4_mayReturn_6 : decode cX4_mayReturn 6 = .ok (.if_icmp .ne 27, 3) := by decide +kernel
theorem dX4_mayReturn_9 : decode cX4_mayReturn 9 = .ok (.aload_n 0, 1) := by decide +kernel
theorem dX4_mayReturn_10 : decode cX4_mayReturn 10 = .ok (.aload_n 0, 1) := by decide +kernel
theorem dX4_mayReturn_11 : decode cX4_mayReturn 11 = .ok (.iload_n 1, 1) := by decide +kernel
theorem dX4_mayReturn_12 : decode cX4_mayReturn 12 = .ok (.invokevirtual 155, 3) := by decide +kernel
theorem dX4_mayReturn_15 : decode cX4_mayReturn 15 = .ok (.invokevirtual 113, 3) := by decide +kernel
theorem dX4_mayReturn_18 : decode cX4_mayReturn 18 = .ok (.invokestatic 78, 3) := by decide +kernel
theorem dX4_mayReturn_21 : decode cX4_mayReturn 21 = .ok (.aload_n 0, 1) := by decide +kernel
theorem dX4_mayReturn_22 : decode cX4_mayReturn 22 = .ok (.iload_n 1, 1) := by decide +kernel
theorem dX4_mayReturn_23 : decode cX4_mayReturn 23 = .ok (.invokevirtual 197, 3) := by decide +kernel
theorem dX4_mayReturn_26 : decode cX4_mayReturn 26 = .ok (.if_icmp .gt 7, 3) := by decide +kernel
theorem dX4_mayReturn_29 : decode cX4_mayReturn 29 = .ok (.iconst 1, 1) := by decide +kernel
theorem dX4_mayReturn_30 : decode cX4_mayReturn 30 = .ok (.goto 4, 3) := by decide +kernel
theorem dX4_mayReturn_33 : decode cX4_mayReturn 33 = .ok (.iconst 0, 1) := by decide +kernel
theorem dX4_mayReturn_34 : decode cX4_mayReturn 34 = .ok (.ireturn, 1) := by decide +kernel
theorem dX4_takeContentOf_0 : decode cX4_takeContentOf 0 = .ok (.aload_n 0, 1) := by decide +kernel
theorem dX4_takeContentOf_1 : decode cX4_takeContentOf 1 = .ok (.iload_n 1, 1) := by decide +kernel
theorem dX4_takeContentOf_2 : decode cX4_takeContentOf 2 = .ok (.invokevirtual 113, 3) := by decide +kernel
theorem dX4_takeContentOf_5 : decode cX4_takeContentOf 5 = .ok (.istore_n 2, 1) := by decide +kernel
theorem dX4_takeContentOf_6 : decode cX4_takeContentOf 6 = .ok (.aload_n 0, 1) := by decide +kernel
theorem dX4_takeContentOf_7 : decode cX4_takeContentOf 7 = .ok (.getfield 30, 3) := by decide +kernel
theorem dX4_takeContentOf_10 : decode cX4_takeContentOf 10 = .ok (.invokevirtual 58, 3) := by decide +kernel
theorem dX4_takeContentOf_13 : decode cX4_takeContentOf 13 = .ok (.iconst 0, 1) := by decide +kernel
theorem dX4_takeContentOf_14 : decode cX4_takeContentOf 14 = .ok (.istore_n 3, 1) := by decide +kernel
theorem dX4_takeContentOf_15 : decode cX4_takeContentOf 15 = .ok (.iload_n 3, 1) := by decide +kernel
theorem dX4_takeContentOf_16 : decode cX4_takeContentOf 16 = .ok (.iload_n 2, 1) := by decide +kernel
theorem dX4_takeContentOf_17 : decode cX4_takeContentOf 17 = .ok (.if_icmp .ge 22, 3) := by decide +kernel
theorem dX4_takeContentOf_20 : decode cX4_takeContentOf 20 = .ok (.aload_n 0, 1) := by decide +kernel
theorem dX4_takeContentOf_21 : decode cX4_takeContentOf 21 = .ok (.getfield 30, 3) := by decide +kernel
theorem dX4_takeContentOf_24 : decode cX4_takeContentOf 24 = .ok (.aload_n 0, 1) := by decide +kernel
theorem dX4_takeContentOf_25 : decode cX4_takeContentOf 25 = .ok (.iload_n 1, 1) := by decide +kernel
theorem dX4_takeContentOf_26 : decode cX4_takeContentOf 26 = .ok (.iload_n 3, 1) := by decide +kernel
theorem dX4_takeContentOf_27 : decode cX4_takeContentOf 27 = .ok (.invokevirtual 140, 3) := by decide +kernel
theorem dX4_takeContentOf_30 : decode cX4_takeContentOf 30 = .ok (.invokevirtual 75, 3) := by decide +kernel
theorem dX4_takeContentOf_33 : decode cX4_takeContentOf 33 = .ok (.iinc 3 1, 3) := by decide +kernel
theorem dX4_takeContentOf_36 : decode cX4_takeContentOf 36 = .ok (.goto (-21), 3) := by decide +kernel
theorem dX4_takeContentOf_39 : decode cX4_takeContentOf 39 = .ok (.return_, 1) := by decide +kernel
theorem dX4_saveState_0 : decode cX4_saveState 0 = .ok (.aload_n 0, 1) := by decide +kernel
theorem dX4_saveState_1 : decode cX4_saveState 1 = .ok (.getfield 231, 3) := by decide +kernel
theorem dX4_saveState_4 : decode cX4_saveState 4 = .ok (.aload_n 0, 1) := by decide +kernel
theorem dX4_saveState_5 : decode cX4_saveState 5 = .ok (.getfield 45, 3) := by decide +kernel
theorem dX4_saveState_8 : decode cX4_saveState 8 = .ok (.arraylength, 1) := by decide +kernel
theorem dX4_saveState_9 : decode cX4_saveState 9 = .ok (.if_icmp .lt 7, 3) := by decide +kernel
theorem dX4_saveState_12 : decode cX4_saveState 12 = .ok (.aload_n 0, 1) := by decide +kernel
theorem dX4_saveState_13 : decode cX4_saveState 13 = .ok (.invokevirtual 323, 3) := by decide +kernel
theorem dX4_saveState_16 : decode cX4_saveState 16 = .ok (.aload_n 0, 1) := by decide +kernel
theorem dX4_saveState_17 : decode cX4_saveState 17 = .ok (.getfield 231, 3) := by decide +kernel
theorem dX4_saveState_20 : decode cX4_saveState 20 = .ok (.ifCond .lt 53, 3) := by decide +kernel
theorem dX4_saveState_23 : decode cX4_saveState 23 = .ok (.aload_n 0, 1) := by decide +kernel
theorem dX4_saveState_24 : decode cX4_saveState 24 = .ok (.getfield 231, 3) := by decide +kernel
theorem dX4_saveState_27 : decode cX4_saveState 27 = .ok (.aload_n 0, 1) := by decide +kernel
theorem dX4_saveState_28 : decode cX4_saveState 28 = .ok (.getfield 45, 3) := by decide +kernel
theorem dX4_saveState_31 : decode cX4_saveState 31 = .ok (.arraylength, 1) := by decide +kernel
theorem dX4_saveState_32 : decode cX4_saveState 32 = .ok (.if_icmp .ge 41, 3) := by decide +kernel
theorem dX4_saveState_35 : decode cX4_saveState 35 = .ok (.aload_n 0, 1) := by decide +kernel
theorem dX4_saveState_36 : decode cX4_saveState 36 = .ok (.getfield 45, 3) := by decide +kernel
theorem dX4_saveState_39 : decode cX4_saveState 39 = .ok (.aload_n 0, 1) := by decide +kernel
theorem dX4_saveState_40 : decode cX4_saveState 40 = .ok (.getfield 231, 3) := by decide +kernel
theorem dX4_saveState_43 : decode cX4_saveState 43 = .ok (.aaload, 1) := by decide +kernel
theorem dX4_saveState_44 : decode cX4_saveState 44 = .ok (.ifnull 29, 3) := by decide +kernel
theorem dX4_saveState_47 : decode cX4_saveState 47 = .ok (.aload_n 0, 1) := by decide +kernel
theorem dX4_saveState_48 : decode cX4_saveState 48 = .ok (.getfield 45, 3) := by decide +kernel
theorem dX4_saveState_51 : decode cX4_saveState 51 = .ok (.aload_n 0, 1) := by decide +kernel
theorem dX4_saveState_52 : decode cX4_saveState 52 = .ok (.getfield 231, 3) := by decide +kernel
theorem dX4_saveState_55 : decode cX4_saveState 55 = .ok (.aaload, 1) := by decide +kernel
theorem dX4_saveState_56 : decode cX4_saveState 56 = .ok (.aload_n 0, 1) := by decide +kernel
theorem dX4_saveState_57 : decode cX4_saveState 57 = .ok (.getfield 20, 3) := by decide +kernel
theorem dX4_saveState_60 : decode cX4_saveState 60 = .ok (.invokevirtual 236, 3) := by decide +kernel
theorem dX4_saveState_63 : decode cX4_saveState 63 = .ok (.aload_n 0, 1) := by decide +kernel
theorem dX4_saveState_64 : decode cX4_saveState 64 = .ok (.dup, 1) := by decide +kernel
theorem dX4_saveState_65 : decode cX4_saveState 65 = .ok (.getfield 231, 3) := by decide +kernel
theorem dX4_saveState_68 : decode cX4_saveState 68 = .ok (.iconst 1, 1) := by decide +kernel
theorem dX4_saveState_69 : decode cX4_saveState 69 = .ok (.iadd, 1) := by decide +kernel
theorem dX4_saveState_70 : decode cX4_saveState 70 = .ok (.putfield 231, 3) := by decide +kernel
theorem dX4_saveState_73 : decode cX4_saveState 73 = .ok (.return_, 1) := by decide +kernel
theorem dX4_discardOldest_0 : decode cX4_discardOldest 0 = .ok (.iconst 1, 1) := by decide +kernel
theorem dX4_discardOldest_1 : decode cX4_discardOldest 1 = .ok (.istore_n 1, 1) := by decide +kernel
theorem dX4_discardOldest_2 : decode cX4_discardOldest 2 = .ok (.iload_n 1, 1) := by decide +kernel
theorem dX4_discardOldest_3 : decode cX4_discardOldest 3 = .ok (.aload_n 0, 1) := by decide +kernel
theorem dX4_discardOldest_4 : decode cX4_discardOldest 4 = .ok (.getfield 45, 3) := by decide +kernel
theorem dX4_discardOldest_7 : decode cX4_discardOldest 7 = .ok (.arraylength, 1) := by decide +kernel
theorem dX4_discardOldest_8 : decode cX4_discardOldest 8 = .ok (.if_icmp .ge 39, 3) := by decide +kernel
theorem dX4_discardOldest_11 : decode cX4_discardOldest 11 = .ok (.aload_n 0, 1) := by decide +kernel
theorem dX4_discardOldest_12 : decode cX4_discardOldest 12 = .ok (.getfield 45, 3) := by decide +kernel
theorem dX4_discardOldest_15 : decode cX4_discardOldest 15 = .ok (.iload_n 1, 1) := by decide +kernel
theorem dX4_discardOldest_16 : decode cX4_discardOldest 16 = .ok (.iconst 1, 1) := by decide +kernel
theorem dX4_discardOldest_17 : decode cX4_discardOldest 17 = .ok (.isub, 1) := by decide +kernel
theorem dX4_discardOldest_18 : decode cX4_discardOldest 18 = .ok (.aaload, 1) := by decide +kernel
theorem dX4_discardOldest_19 : decode cX4_discardOldest 19 = .ok (.astore_n 2, 1) := by decide +kernel
theorem dX4_discardOldest_20 : decode cX4_discardOldest 20 = .ok (.aload_n 0, 1) := by decide +kernel
theorem dX4_discardOldest_21 : decode cX4_discardOldest 21 = .ok (.getfield 45, 3) := by decide +kernel
theorem dX4_discardOldest_24 : decode cX4_discardOldest 24 = .ok (.iload_n 1, 1) := by decide +kernel
theorem dX4_discardOldest_25 : decode cX4_discardOldest 25 = .ok (.iconst 1, 1) := by decide +kernel
theorem dX4_discardOldest_26 : decode cX4_discardOldest 26 = .ok (.isub, 1) := by decide +kernel
theorem dX4_discardOldest_27 : decode cX4_discardOldest 27 = .ok (.aload_n 0, 1) := by decide +kernel
theorem dX4_discardOldest_28 : decode cX4_discardOldest 28 = .ok (.getfield 45, 3) := by decide +kernel
theorem dX4_discardOldest_31 : decode cX4_discardOldest 31 = .ok (.iload_n 1, 1) := by decide +kernel
theorem dX4_discardOldest_32 : decode cX4_discardOldest 32 = .ok (.aaload, 1) := by decide +kernel
theorem dX4_discardOldest_33 : decode cX4_discardOldest 33 = .ok (.aastore, 1) := by decide +kernel
theorem dX4_discardOldest_34 : decode cX4_discardOldest 34 = .ok (.aload_n 0, 1) := by decide +kernel
theorem dX4_discardOldest_35 : decode cX4_discardOldest 35 = .ok (.getfield 45, 3) := by decide +kernel
theorem dX4_discardOldest_38 : decode cX4_discardOldest 38 = .ok (.iload_n 1, 1) := by decide +kernel
theorem dX4_discardOldest_39 : decode cX4_discardOldest 39 = .ok (.aload_n 2, 1) := by decide +kernel
theorem dX4_discardOldest_40 : decode cX4_discardOldest 40 = .ok (.aastore, 1) := by decide +kernel
theorem dX4_discardOldest_41 : decode cX4_discardOldest 41 = .ok (.iinc 1 1, 3) := by decide +kernel
theorem dX4_discardOldest_44 : decode cX4_discardOldest 44 = .ok (.goto (-42), 3) := by decide +kernel
theorem dX4_discardOldest_47 : decode cX4_discardOldest 47 = .ok (.aload_n 0, 1) := by decide +kernel
theorem dX4_discardOldest_48 : decode cX4_discardOldest 48 = .ok (.dup, 1) := by decide +kernel
theorem dX4_discardOldest_49 : decode cX4_discardOldest 49 = .ok (.getfield 231, 3) := by decide +kernel
theorem dX4_discardOldest_52 : decode cX4_discardOldest 52 = .ok (.iconst 1, 1) := by decide +kernel
theorem dX4_discardOldest_53 : decode cX4_discardOldest 53 = .ok (.isub, 1) := by decide +kernel
theorem dX4_discardOldest_54 : decode cX4_discardOldest 54 = .ok (.putfield 231, 3) := by decide +kernel
theorem dX4_discardOldest_57 : decode cX4_discardOldest 57 = .ok (.return_, 1) := by decide +kernel
theorem dX4_slotOffset_0 : decode cX4_slotOffset 0 = .ok (.iconst 2, 1) := by decide +kernel
theorem dX4_slotOffset_1 : decode cX4_slotOffset 1 = .ok (.iconst 2, 1) := by decide +kernel
theorem dX4_slotOffset_2 : decode cX4_slotOffset 2 = .ok (.iload_n 0, 1) := by decide +kernel
theorem dX4_slotOffset_3 : decode cX4_slotOffset 3 = .ok (.imul, 1) := by decide +kernel
theorem dX4_slotOffset_4 : decode cX4_slotOffset 4 = .ok (.iadd, 1) := by decide +kernel
theorem dX4_slotOffset_5 : decode cX4_slotOffset 5 = .ok (.ireturn, 1) := by decide +kernel
theorem dJ9_max_7cf53_0 : decode cJ9_max_7cf53 0 = .ok (.iload_n 0, 1) := by decide +kernel
theorem dJ9_max_7cf53_1 : decode cJ9_max_7cf53 1 = .ok (.iload_n 1, 1) := by decide +kernel
theorem dJ9_max_7cf53_2 : decode cJ9_max_7cf53 2 = .ok (.if_icmp .lt 7, 3) := by decide +kernel
theorem dJ9_max_7cf53_5 : decode cJ9_max_7cf53 5 = .ok (.iload_n 0, 1) := by decide +kernel
theorem dJ9_max_7cf53_6 : decode cJ9_max_7cf53 6 = .ok (.goto 4, 3) := by decide +kernel
theorem dJ9_max_7cf53_9 : decode cJ9_max_7cf53 9 = .ok (.iload_n 1, 1) := by decide +kernel
theorem dJ9_max_7cf53_10 : decode cJ9_max_7cf53 10 = .ok (.ireturn, 1) := by decide +kernel
theorem dJ9_min_7cf53_0 : decode cJ9_min_7cf53 0 = .ok (.iload_n 0, 1) := by decide +kernel
theorem dJ9_min_7cf53_1 : decode cJ9_min_7cf53 1 = .ok (.iload_n 1, 1) := by decide +kernel
theorem dJ9_min_7cf53_2 : decode cJ9_min_7cf53 2 = .ok (.if_icmp .gt 7, 3) := by decide +kernel
theorem dJ9_min_7cf53_5 : decode cJ9_min_7cf53 5 = .ok (.iload_n 0, 1) := by decide +kernel
theorem dJ9_min_7cf53_6 : decode cJ9_min_7cf53 6 = .ok (.goto 4, 3) := by decide +kernel
theorem dJ9_min_7cf53_9 : decode cJ9_min_7cf53 9 = .ok (.iload_n 1, 1) := by decide +kernel
theorem dJ9_min_7cf53_10 : decode cJ9_min_7cf53 10 = .ok (.ireturn, 1) := by decide +kernel
theorem dL_cell_0 : decode cL_cell 0 = .ok (.iload_n 1, 1) := by decide +kernel
theorem dL_cell_1 : decode cL_cell 1 = .ok (.aload_n 0, 1) := by decide +kernel
theorem dL_cell_2 : decode cL_cell 2 = .ok (.arraylength, 1) := by decide +kernel
theorem dL_cell_3 : decode cL_cell 3 = .ok (.if_icmp .ge 9, 3) := by decide +kernel
theorem dL_cell_6 : decode cL_cell 6 = .ok (.aload_n 0, 1) := by decide +kernel
theorem dL_cell_7 : decode cL_cell 7 = .ok (.iload_n 1, 1) := by decide +kernel
theorem dL_cell_8 : decode cL_cell 8 = .ok (.iaload, 1) := by decide +kernel
theorem dL_cell_9 : decode cL_cell 9 = .ok (.goto 11, 3) := by decide +kernel
theorem dL_cell_12 : decode cL_cell 12 = .ok (.ldc 7, 2) := by decide +kernel
theorem dL_cell_14 : decode cL_cell 14 = .ok (.iload_n 1, 1) := by decide +kernel
theorem dL_cell_15 : decode cL_cell 15 = .ok (.sipush 197, 3) := by decide +kernel
theorem dL_cell_18 : decode cL_cell 18 = .ok (.iadd, 1) := by decide +kernel
theorem dL_cell_19 : decode cL_cell 19 = .ok (.imul, 1) := by decide +kernel
theorem dL_cell_20 : decode cL_cell 20 = .ok (.ireturn, 1) := by decide +kernel
theorem dL_up_0 : decode cL_up 0 = .ok (.iload_n 0, 1) := by decide +kernel
theorem dL_up_1 : decode cL_up 1 = .ok (.ldc 8, 2) := by decide +kernel
theorem dL_up_3 : decode cL_up 3 = .ok (.iand, 1) := by decide +kernel
theorem dL_up_4 : decode cL_up 4 = .ok (.iload_n 1, 1) := by decide +kernel
theorem dL_up_5 : decode cL_up 5 = .ok (.irem, 1) := by decide +kernel
theorem dL_up_6 : decode cL_up 6 = .ok (.ireturn, 1) := by decide +kernel
theorem dL_row_0 : decode cL_row 0 = .ok (.iconst (-1), 1) := by decide +kernel
theorem dL_row_1 : decode cL_row 1 = .ok (.istore_n 2, 1) := by decide +kernel
theorem dL_row_2 : decode cL_row 2 = .ok (.iconst 0, 1) := by decide +kernel
theorem dL_row_3 : decode cL_row 3 = .ok (.istore_n 3, 1) := by decide +kernel
theorem dL_row_4 : decode cL_row 4 = .ok (.iload_n 3, 1) := by decide +kernel
theorem dL_row_5 : decode cL_row 5 = .ok (.iload_n 1, 1) := by decide +kernel
theorem dL_row_6 : decode cL_row 6 = .ok (.if_icmp .gt 23, 3) := by decide +kernel
theorem dL_row_9 : decode cL_row 9 = .ok (.iload_n 3, 1) := by decide +kernel
theorem dL_row_10 : decode cL_row 10 = .ok (.aload_n 0, 1) := by decide +kernel
theorem dL_row_11 : decode cL_row 11 = .ok (.invokevirtual 9, 3) := by decide +kernel
theorem dL_row_14 : decode cL_row 14 = .ok (.if_icmp .ge 15, 3) := by decide +kernel
theorem dL_row_17 : decode cL_row 17 = .ok (.aload_n 0, 1) := by decide +kernel
theorem dL_row_18 : decode cL_row 18 = .ok (.iload_n 2, 1) := by decide +kernel
theorem dL_row_19 : decode cL_row 19 = .ok (.invokevirtual 15, 3) := by decide +kernel
theorem dL_row_22 : decode cL_row 22 = .ok (.istore_n 2, 1) := by decide +kernel
theorem dL_row_23 : decode cL_row 23 = .ok (.iinc 3 1, 3) := by decide +kernel
theorem dL_row_26 : decode cL_row 26 = .ok (.goto (-22), 3) := by decide +kernel
theorem dL_row_29 : decode cL_row 29 = .ok (.iload_n 2, 1) := by decide +kernel
theorem dL_row_30 : decode cL_row 30 = .ok (.ifCond .ge 7, 3) := by decide +kernel
theorem dL_row_33 : decode cL_row 33 = .ok (.iload_n 2, 1) := by decide +kernel
theorem dL_row_34 : decode cL_row 34 = .ok (.goto 8, 3) := by decide +kernel
theorem dL_row_37 : decode cL_row 37 = .ok (.aload_n 0, 1) := by decide +kernel
theorem dL_row_38 : decode cL_row 38 = .ok (.iload_n 2, 1) := by decide +kernel
theorem dL_row_39 : decode cL_row 39 = .ok (.invokevirtual 19, 3) := by decide +kernel
theorem dL_row_42 : decode cL_row 42 = .ok (.ireturn, 1) := by decide +kernel
theorem dL_stored_0 : decode cL_stored 0 = .ok (.ldc2_w 22, 3) := by decide +kernel
theorem dL_stored_3 : decode cL_stored 3 = .ok (.lstore_n 2, 1) := by decide +kernel
theorem dL_stored_4 : decode cL_stored 4 = .ok (.iconst 0, 1) := by decide +kernel
theorem dL_stored_5 : decode cL_stored 5 = .ok (.istore 4, 2) := by decide +kernel
theorem dL_stored_7 : decode cL_stored 7 = .ok (.iload 4, 2) := by decide +kernel
theorem dL_stored_9 : decode cL_stored 9 = .ok (.bipush 100, 2) := by decide +kernel
theorem dL_stored_11 : decode cL_stored 11 = .ok (.aload_n 0, 1) := by decide +kernel
theorem dL_stored_12 : decode cL_stored 12 = .ok (.invokevirtual 24, 3) := by decide +kernel
theorem dL_stored_15 : decode cL_stored 15 = .ok (.imul, 1) := by decide +kernel
theorem dL_stored_16 : decode cL_stored 16 = .ok (.if_icmp .ge 82, 3) := by decide +kernel
