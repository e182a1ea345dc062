theorem dX4_insert_25 : decode cX4_insert 25 = .ok (.new 70, 3) := by decide +kernel
theorem dX4_insert_28 : decode cX4_insert 28 = .ok (.dup, 1) := by decide +kernel
theorem dX4_insert_29 : decode cX4_insert 29 = .ok (.ldc 86, 2) := by decide +kernel
theorem dX4_insert_31 : decode cX4_insert 31 = .ok (.invokespecial 74, 3) := by decide +kernel
theorem dX4_insert_34 : decode cX4_insert 34 = .ok (.athrow, 1) := by decide +kernel
theorem dX4_insert_35 : decode cX4_insert 35 = .ok (.aload_n 0, 1) := by decide +kernel
theorem dX4_insert_36 : decode cX4_insert 36 = .ok (.invokevirtual 88, 3) := by decide +kernel
theorem dX4_insert_39 : decode cX4_insert 39 = .ok (.aload_n 0, 1) := by decide +kernel
theorem dX4_insert_40 : decode cX4_insert 40 = .ok (.getfield 30, 3) := by decide +kernel
theorem dX4_insert_43 : decode cX4_insert 43 = .ok (.aload_n 0, 1) := by decide +kernel
theorem dX4_insert_44 : decode cX4_insert 44 = .ok (.getfield 26, 3) := by decide +kernel
theorem dX4_insert_47 : decode cX4_insert 47 = .ok (.iconst 0, 1) := by decide +kernel
theorem dX4_insert_48 : decode cX4_insert 48 = .ok (.aload_n 0, 1) := by decide +kernel
theorem dX4_insert_49 : decode cX4_insert 49 = .ok (.getfield 26, 3) := by decide +kernel
theorem dX4_insert_52 : decode cX4_insert 52 = .ok (.getfield 54, 3) := by decide +kernel
theorem dX4_insert_55 : decode cX4_insert 55 = .ok (.invokevirtual 91, 3) := by decide +kernel
theorem dX4_insert_58 : decode cX4_insert 58 = .ok (.aload_n 0, 1) := by decide +kernel
theorem dX4_insert_59 : decode cX4_insert 59 = .ok (.getfield 26, 3) := by decide +kernel
theorem dX4_insert_62 : decode cX4_insert 62 = .ok (.invokevirtual 58, 3) := by decide +kernel
theorem dX4_insert_65 : decode cX4_insert 65 = .ok (.aload_n 0, 1) := by decide +kernel
theorem dX4_insert_66 : decode cX4_insert 66 = .ok (.iload_n 1, 1) := by decide +kernel
theorem dX4_insert_67 : decode cX4_insert 67 = .ok (.invokevirtual 95, 3) := by decide +kernel
theorem dX4_insert_70 : decode cX4_insert 70 = .ok (.ireturn, 1) := by decide +kernel
theorem dX4_update_0 : decode cX4_update 0 = .ok (.aload_n 0, 1) := by decide +kernel
theorem dX4_update_1 : decode cX4_update 1 = .ok (.iload_n 1, 1) := by decide +kernel
theorem dX4_update_2 : decode cX4_update 2 = .ok (.invokevirtual 98, 3) := by decide +kernel
theorem dX4_update_5 : decode cX4_update 5 = .ok (.aload_n 0, 1) := by decide +kernel
theorem dX4_update_6 : decode cX4_update 6 = .ok (.iload_n 1, 1) := by decide +kernel
theorem dX4_update_7 : decode cX4_update 7 = .ok (.aload_n 0, 1) := by decide +kernel
theorem dX4_update_8 : decode cX4_update 8 = .ok (.getfield 26, 3) := by decide +kernel
theorem dX4_update_11 : decode cX4_update 11 = .ok (.getfield 54, 3) := by decide +kernel
theorem dX4_update_14 : decode cX4_update 14 = .ok (.invokevirtual 101, 3) := by decide +kernel
theorem dX4_update_17 : decode cX4_update 17 = .ok (.istore_n 2, 1) := by decide +kernel
theorem dX4_update_18 : decode cX4_update 18 = .ok (.iload_n 2, 1) := by decide +kernel
theorem dX4_update_19 : decode cX4_update 19 = .ok (.iconst (-1), 1) := by decide +kernel
theorem dX4_update_20 : decode cX4_update 20 = .ok (.if_icmp .ne 13, 3) := by decide +kernel
theorem dX4_update_23 : decode cX4_update 23 = .ok (.new 70, 3) := by decide +kernel
theorem dX4_update_26 : decode cX4_update 26 = .ok (.dup, 1) := by decide +kernel
theorem dX4_update_27 : decode cX4_update 27 = .ok (.ldc 104, 2) := by decide +kernel
theorem dX4_update_29 : decode cX4_update 29 = .ok (.invokespecial 74, 3) := by decide +kernel
theorem dX4_update_32 : decode cX4_update 32 = .ok (.athrow, 1) := by decide +kernel
theorem dX4_update_33 : decode cX4_update 33 = .ok (.aload_n 0, 1) := by decide +kernel
theorem dX4_update_34 : decode cX4_update 34 = .ok (.invokevirtual 88, 3) := by decide +kernel
theorem dX4_update_37 : decode cX4_update 37 = .ok (.aload_n 0, 1) := by decide +kernel
theorem dX4_update_38 : decode cX4_update 38 = .ok (.getfield 30, 3) := by decide +kernel
theorem dX4_update_41 : decode cX4_update 41 = .ok (.aload_n 0, 1) := by decide +kernel
theorem dX4_update_42 : decode cX4_update 42 = .ok (.getfield 26, 3) := by decide +kernel
theorem dX4_update_45 : decode cX4_update 45 = .ok (.iconst 0, 1) := by decide +kernel
theorem dX4_update_46 : decode cX4_update 46 = .ok (.aload_n 0, 1) := by decide +kernel
theorem dX4_update_47 : decode cX4_update 47 = .ok (.getfield 26, 3) := by decide +kernel
theorem dX4_update_50 : decode cX4_update 50 = .ok (.getfield 54, 3) := by decide +kernel
theorem dX4_update_53 : decode cX4_update 53 = .ok (.invokevirtual 91, 3) := by decide +kernel
theorem dX4_update_56 : decode cX4_update 56 = .ok (.aload_n 0, 1) := by decide +kernel
theorem dX4_update_57 : decode cX4_update 57 = .ok (.getfield 26, 3) := by decide +kernel
theorem dX4_update_60 : decode cX4_update 60 = .ok (.invokevirtual 58, 3) := by decide +kernel
theorem dX4_update_63 : decode cX4_update 63 = .ok (.aload_n 0, 1) := by decide +kernel
theorem dX4_update_64 : decode cX4_update 64 = .ok (.iload_n 1, 1) := by decide +kernel
theorem dX4_update_65 : decode cX4_update 65 = .ok (.iload_n 2, 1) := by decide +kernel
theorem dX4_update_66 : decode cX4_update 66 = .ok (.invokevirtual 106, 3) := by decide +kernel
theorem dX4_update_69 : decode cX4_update 69 = .ok (.iload_n 2, 1) := by decide +kernel
theorem dX4_update_70 : decode cX4_update 70 = .ok (.ireturn, 1) := by decide +kernel
theorem dX4_delete_0 : decode cX4_delete 0 = .ok (.aload_n 0, 1) := by decide +kernel
theorem dX4_delete_1 : decode cX4_delete 1 = .ok (.iload_n 1, 1) := by decide +kernel
theorem dX4_delete_2 : decode cX4_delete 2 = .ok (.invokevirtual 98, 3) := by decide +kernel
theorem dX4_delete_5 : decode cX4_delete 5 = .ok (.aload_n 0, 1) := by decide +kernel
theorem dX4_delete_6 : decode cX4_delete 6 = .ok (.invokevirtual 88, 3) := by decide +kernel
theorem dX4_delete_9 : decode cX4_delete 9 = .ok (.aload_n 0, 1) := by decide +kernel
theorem dX4_delete_10 : decode cX4_delete 10 = .ok (.aload_n 0, 1) := by decide +kernel
theorem dX4_delete_11 : decode cX4_delete 11 = .ok (.iload_n 1, 1) := by decide +kernel
theorem dX4_delete_12 : decode cX4_delete 12 = .ok (.invokevirtual 110, 3) := by decide +kernel
theorem dX4_delete_15 : decode cX4_delete 15 = .ok (.invokevirtual 113, 3) := by decide +kernel
theorem dX4_delete_18 : decode cX4_delete 18 = .ok (.istore_n 2, 1) := by decide +kernel
theorem dX4_delete_19 : decode cX4_delete 19 = .ok (.aload_n 0, 1) := by decide +kernel
theorem dX4_delete_20 : decode cX4_delete 20 = .ok (.iload_n 1, 1) := by decide +kernel
theorem dX4_delete_21 : decode cX4_delete 21 = .ok (.invokevirtual 116, 3) := by decide +kernel
theorem dX4_delete_24 : decode cX4_delete 24 = .ok (.iload_n 2, 1) := by decide +kernel
theorem dX4_delete_25 : decode cX4_delete 25 = .ok (.ireturn, 1) := by decide +kernel
theorem dX4_bringHome_0 : decode cX4_bringHome 0 = .ok (.aload_n 0, 1) := by decide +kernel
theorem dX4_bringHome_1 : decode cX4_bringHome 1 = .ok (.invokevirtual 88, 3) := by decide +kernel
theorem dX4_bringHome_4 : decode cX4_bringHome 4 = .ok (.aload_n 0, 1) := by decide +kernel
theorem dX4_bringHome_5 : decode cX4_bringHome 5 = .ok (.invokevirtual 119, 3) := by decide +kernel
theorem dX4_bringHome_8 : decode cX4_bringHome 8 = .ok (.ireturn, 1) := by decide +kernel
theorem dX4_compact_0 : decode cX4_compact 0 = .ok (.aload_n 0, 1) := by decide +kernel
theorem dX4_compact_1 : decode cX4_compact 1 = .ok (.iload_n 1, 1) := by decide +kernel
theorem dX4_compact_2 : decode cX4_compact 2 = .ok (.invokevirtual 123, 3) := by decide +kernel
theorem dX4_compact_5 : decode cX4_compact 5 = .ok (.aload_n 0, 1) := by decide +kernel
theorem dX4_compact_6 : decode cX4_compact 6 = .ok (.invokevirtual 88, 3) := by decide +kernel
theorem dX4_compact_9 : decode cX4_compact 9 = .ok (.aload_n 0, 1) := by decide +kernel
theorem dX4_compact_10 : decode cX4_compact 10 = .ok (.getfield 12, 3) := by decide +kernel
theorem dX4_compact_13 : decode cX4_compact 13 = .ok (.iload_n 1, 1) := by decide +kernel
theorem dX4_compact_14 : decode cX4_compact 14 = .ok (.invokevirtual 126, 3) := by decide +kernel
theorem dX4_compact_17 : decode cX4_compact 17 = .ok (.ireturn, 1) := by decide +kernel
theorem dX4_rows_0 : decode cX4_rows 0 = .ok (.aload_n 0, 1) := by decide +kernel
theorem dX4_rows_1 : decode cX4_rows 1 = .ok (.iconst 1, 1) := by decide +kernel
theorem dX4_rows_2 : decode cX4_rows 2 = .ok (.invokevirtual 129, 3) := by decide +kernel
theorem dX4_rows_5 : decode cX4_rows 5 = .ok (.aload_n 0, 1) := by decide +kernel
theorem dX4_rows_6 : decode cX4_rows 6 = .ok (.iconst 2, 1) := by decide +kernel
theorem dX4_rows_7 : decode cX4_rows 7 = .ok (.invokevirtual 129, 3) := by decide +kernel
theorem dX4_rows_10 : decode cX4_rows 10 = .ok (.iadd, 1) := by decide +kernel
theorem dX4_rows_11 : decode cX4_rows 11 = .ok (.ireturn, 1) := by decide +kernel
theorem dX4_isRow_0 : decode cX4_isRow 0 = .ok (.aload_n 0, 1) := by decide +kernel
theorem dX4_isRow_1 : decode cX4_isRow 1 = .ok (.iload_n 1, 1) := by decide +kernel
theorem dX4_isRow_2 : decode cX4_isRow 2 = .ok (.invokevirtual 132, 3) := by decide +kernel
theorem dX4_isRow_5 : decode cX4_isRow 5 = .ok (.istore_n 2, 1) := by decide +kernel
theorem dX4_isRow_6 : decode cX4_isRow 6 = .ok (.iload_n 2, 1) := by decide +kernel
theorem dX4_isRow_7 : decode cX4_isRow 7 = .ok (.iconst 1, 1) := by decide +kernel
theorem dX4_isRow_8 : decode cX4_isRow 8 = .ok (.if_icmp .eq 8, 3) := by decide +kernel
theorem dX4_isRow_11 : decode cX4_isRow 11 = .ok (.iload_n 2, 1) := by decide +kernel
theorem dX4_isRow_12 : decode cX4_isRow 12 = .ok (.iconst 2, 1) := by decide +kernel
theorem dX4_isRow_13 : decode cX4_isRow 13 = .ok (.if_icmp .ne 7, 3) := by decide +kernel
theorem dX4_isRow_16 : decode cX4_isRow 16 = .ok (.iconst 1, 1) := by decide +kernel
theorem dX4_isRow_17 : decode cX4_isRow 17 = .ok (.goto 4, 3) := by decide +kernel
theorem dX4_isRow_20 : decode cX4_isRow 20 = .ok (.iconst 0, 1) := by decide +kernel
theorem dX4_isRow_21 : decode cX4_isRow 21 = .ok (.ireturn, 1) := by decide +kernel
theorem dX4_length_0 : decode cX4_length 0 = .ok (.aload_n 0, 1) := by decide +kernel
theorem dX4_length_1 : decode cX4_length 1 = .ok (.iload_n 1, 1) := by decide +kernel
theorem dX4_length_2 : decode cX4_length 2 = .ok (.invokevirtual 98, 3) := by decide +kernel
theorem dX4_length_5 : decode cX4_length 5 = .ok (.aload_n 0, 1) := by decide +kernel
theorem dX4_length_6 : decode cX4_length 6 = .ok (.aload_n 0, 1) := by decide +kernel
theorem dX4_length_7 : decode cX4_length 7 = .ok (.iload_n 1, 1) := by decide +kernel
theorem dX4_length_8 : decode cX4_length 8 = .ok (.invokevirtual 110, 3) := by decide +kernel
theorem dX4_length_11 : decode cX4_length 11 = .ok (.invokevirtual 113, 3) := by decide +kernel
theorem dX4_length_14 : decode cX4_length 14 = .ok (.ireturn, 1) := by decide +kernel
theorem dX4_byteOf_0 : decode cX4_byteOf 0 = .ok (.aload_n 0, 1) := by decide +kernel
theorem dX4_byteOf_1 : decode cX4_byteOf 1 = .ok (.iload_n 1, 1) := by decide +kernel
theorem dX4_byteOf_2 : decode cX4_byteOf 2 = .ok (.invokevirtual 98, 3) := by decide +kernel
theorem dX4_byteOf_5 : decode cX4_byteOf 5 = .ok (.aload_n 0, 1) := by decide +kernel
theorem dX4_byteOf_6 : decode cX4_byteOf 6 = .ok (.iload_n 1, 1) := by decide +kernel
theorem dX4_byteOf_7 : decode cX4_byteOf 7 = .ok (.invokevirtual 110, 3) := by decide +kernel
theorem dX4_byteOf_10 : decode cX4_byteOf 10 = .ok (.istore_n 3, 1) := by decide +kernel
theorem dX4_byteOf_11 : decode cX4_byteOf 11 = .ok (.iload_n 2, 1) := by decide +kernel
theorem dX4_byteOf_12 : decode cX4_byteOf 12 = .ok (.ifCond .lt 12, 3) := by decide +kernel
theorem dX4_byteOf_15 : decode cX4_byteOf 15 = .ok (.iload_n 2, 1) := by decide +kernel
theorem dX4_byteOf_16 : decode cX4_byteOf 16 = .ok (.aload_n 0, 1) := by decide +kernel
theorem dX4_byteOf_17 : decode cX4_byteOf 17 = .ok (.iload_n 3, 1) := by decide +kernel
theorem dX4_byteOf_18 : decode cX4_byteOf 18 = .ok (.invokevirtual 113, 3) := by decide +kernel
theorem dX4_byteOf_21 : decode cX4_byteOf 21 = .ok (.if_icmp .lt 13, 3) := by decide +kernel
theorem dX4_byteOf_24 : decode cX4_byteOf 24 = .ok (.new 135, 3) := by decide +kernel
theorem dX4_byteOf_27 : decode cX4_byteOf 27 = .ok (.dup, 1) := by decide +kernel
theorem dX4_byteOf_28 : decode cX4_byteOf 28 = .ok (.ldc 137, 2) := by decide +kernel
theorem dX4_byteOf_30 : decode cX4_byteOf 30 = .ok (.invokespecial 139, 3) := by decide +kernel
theorem dX4_byteOf_33 : decode cX4_byteOf 33 = .ok (.athrow, 1) := by decide +kernel
theorem dX4_byteOf_34 : decode cX4_byteOf 34 = .ok (.aload_n 0, 1) := by decide +kernel
theorem dX4_byteOf_35 : decode cX4_byteOf 35 = .ok (.iload_n 3, 1) := by decide +kernel
theorem dX4_byteOf_36 : decode cX4_byteOf 36 = .ok (.iload_n 2, 1) := by decide +kernel
theorem dX4_byteOf_37 : decode cX4_byteOf 37 = .ok (.invokevirtual 140, 3) := by decide +kernel
theorem dX4_byteOf_40 : decode cX4_byteOf 40 = .ok (.ireturn, 1) := by decide +kernel
theorem dX4_placeOf_0 : decode cX4_placeOf 0 = .ok (.aload_n 0, 1) := by decide +kernel
theorem dX4_placeOf_1 : decode cX4_placeOf 1 = .ok (.iload_n 1, 1) := by decide +kernel
theorem dX4_placeOf_2 : decode cX4_placeOf 2 = .ok (.invokevirtual 98, 3) := by decide +kernel
theorem dX4_placeOf_5 : decode cX4_placeOf 5 = .ok (.aload_n 0, 1) := by decide +kernel
theorem dX4_placeOf_6 : decode cX4_placeOf 6 = .ok (.iload_n 1, 1) := by decide +kernel
theorem dX4_placeOf_7 : decode cX4_placeOf 7 = .ok (.invokevirtual 110, 3) := by decide +kernel
theorem dX4_placeOf_10 : decode cX4_placeOf 10 = .ok (.ireturn, 1) := by decide +kernel
theorem dX4_next_0 : decode cX4_next 0 = .ok (.iconst 0, 1) := by decide +kernel
theorem dX4_next_1 : decode cX4_next 1 = .ok (.istore_n 2, 1) := by decide +kernel
theorem dX4_next_2 : decode cX4_next 2 = .ok (.iload_n 2, 1) := by decide +kernel
theorem dX4_next_3 : decode cX4_next 3 = .ok (.aload_n 0, 1) := by decide +kernel
theorem dX4_next_4 : decode cX4_next 4 = .ok (.getfield 20, 3) := by decide +kernel
theorem dX4_next_7 : decode cX4_next 7 = .ok (.getfield 143, 3) := by decide +kernel
theorem dX4_next_10 : decode cX4_next 10 = .ok (.if_icmp .ge 60, 3) := by decide +kernel
theorem dX4_next_13 : decode cX4_next 13 = .ok (.aload_n 0, 1) := by decide +kernel
theorem dX4_next_14 : decode cX4_next 14 = .ok (.getfield 20, 3) := by decide +kernel
theorem dX4_next_17 : decode cX4_next 17 = .ok (.iload_n 2, 1) := by decide +kernel
theorem dX4_next_18 : decode cX4_next 18 = .ok (.invokevirtual 146, 3) := by decide +kernel
theorem dX4_next_21 : decode cX4_next 21 = .ok (.istore_n 3, 1) := by decide +kernel
theorem dX4_next_22 : decode cX4_next 22 = .ok (.iconst 0, 1) := by decide +kernel
theorem dX4_next_23 : decode cX4_next 23 = .ok (.istore 4, 2) := by decide +kernel
theorem dX4_next_25 : decode cX4_next 25 = .ok (.iload 4, 2) := by decide +kernel
theorem dX4_next_27 : decode cX4_next 27 = .ok (.iload_n 3, 1) := by decide +kernel
theorem dX4_next_28 : decode cX4_next 28 = .ok (.if_icmp .ge 36, 3) := by decide +kernel
theorem dX4_next_31 : decode cX4_next 31 = .ok (.iload_n 2, 1) := by decide +kernel
theorem dX4_next_32 : decode cX4_next 32 = .ok (.iload 4, 2) := by decide +kernel
theorem dX4_next_34 : decode cX4_next 34 = .ok (.invokestatic 149, 3) := by decide +kernel
theorem dX4_next_37 : decode cX4_next 37 = .ok (.istore 5, 2) := by decide +kernel
theorem dX4_next_39 : decode cX4_next 39 = .ok (.iload 5, 2) := by decide +kernel
theorem dX4_next_41 : decode cX4_next 41 = .ok (.iload_n 1, 1) := by decide +kernel
theorem dX4_next_42 : decode cX4_next 42 = .ok (.if_icmp .le 16, 3) := by decide +kernel
theorem dX4_next_45 : decode cX4_next 45 = .ok (.aload_n 0, 1) := by decide +kernel
theorem dX4_next_46 : decode cX4_next 46 = .ok (.iload 5, 2) := by decide +kernel
theorem dX4_next_48 : decode cX4_next 48 = .ok (.invokevirtual 152, 3) := by decide +kernel
theorem dX4_next_51 : decode cX4_next 51 = .ok (.iconst (-1), 1) := by decide +kernel
theorem dX4_next_52 : decode cX4_next 52 = .ok (.if_icmp .eq 6, 3) := by decide +kernel
theorem dX4_next_55 : decode cX4_next 55 = .ok (.iload 5, 2) := by decide +kernel
theorem dX4_next_57 : decode cX4_next 57 = .ok (.ireturn, 1) := by decide +kernel
theorem dX4_next_58 : decode cX4_next 58 = .ok (.iinc 4 1, 3) := by decide +kernel
theorem dX4_next_61 : decode cX4_next 61 = .ok (.goto (-36), 3) := by decide +kernel
theorem dX4_next_64 : decode cX4_next 64 = .ok (.iinc 2 1, 3) := by decide +kernel
theorem dX4_next_67 : decode cX4_next 67 = .ok (.goto (-65), 3) := by decide +kernel
theorem dX4_next_70 : decode cX4_next 70 = .ok (.iconst (-1), 1) := by decide +kernel
theorem dX4_next_71 : decode cX4_next 71 = .ok (.ireturn, 1) := by decide +kernel
theorem dX4_rowAt_0 : decode cX4_rowAt 0 = .ok (.aload_n 0, 1) := by decide +kernel
theorem dX4_rowAt_1 : decode cX4_rowAt 1 = .ok (.iload_n 1, 1) := by decide +kernel
theorem dX4_rowAt_2 : decode cX4_rowAt 2 = .ok (.invokevirtual 132, 3) := by decide +kernel
theorem dX4_rowAt_5 : decode cX4_rowAt 5 = .ok (.istore_n 2, 1) := by decide +kernel
theorem dX4_rowAt_6 : decode cX4_rowAt 6 = .ok (.iload_n 2, 1) := by decide +kernel
theorem dX4_rowAt_7 : decode cX4_rowAt 7 = .ok (.iconst 1, 1) := by decide +kernel
theorem dX4_rowAt_8 : decode cX4_rowAt 8 = .ok (.if_icmp .ne 5, 3) := by decide +kernel
theorem dX4_rowAt_11 : decode cX4_rowAt 11 = .ok (.iload_n 1, 1) := by decide +kernel
theorem dX4_rowAt_12 : decode cX4_rowAt 12 = .ok (.ireturn, 1) := by decide +kernel
theorem dX4_rowAt_13 : decode cX4_rowAt 13 = .ok (.iload_n 2, 1) := by decide +kernel
theorem dX4_rowAt_14 : decode cX4_rowAt 14 = .ok (.iconst 3, 1) := by decide +kernel
theorem dX4_rowAt_15 : decode cX4_rowAt 15 = .ok (.if_icmp .ne 11, 3) := by decide +kernel
theorem dX4_rowAt_18 : decode cX4_rowAt 18 = .ok (.aload_n 0, 1) := by decide +kernel
theorem dX4_rowAt_19 : decode cX4_rowAt 19 = .ok (.iload_n 1, 1) := by decide +kernel
theorem dX4_rowAt_20 : decode cX4_rowAt 20 = .ok (.invokevirtual 155, 3) := by decide +kernel
theorem dX4_rowAt_23 : decode cX4_rowAt 23 = .ok (.goto 4, 3) := by decide +kernel
theorem dX4_rowAt_26 : decode cX4_rowAt 26 = .ok (.iconst (-1), 1) := by decide +kernel
theorem dX4_rowAt_27 : decode cX4_rowAt 27 = .ok (.ireturn, 1) := by decide +kernel
theorem dX4_pages_0 : decode cX4_pages 0 = .ok (.aload_n 0, 1) := by decide +kernel
theorem dX4_pages_1 : decode cX4_pages 1 = .ok (.getfield 20, 3) := by decide +kernel
theorem dX4_pages_4 : decode cX4_pages 4 = .ok (.getfield 143, 3) := by decide +kernel
theorem dX4_pages_7 : decode cX4_pages 7 = .ok (.ireturn, 1) := by decide +kernel
theorem dX4_pageByte_0 : decode cX4_pageByte 0 = .ok (.aload_n 0, 1) := by decide +kernel
theorem dX4_pageByte_1 : decode cX4_pageByte 1 = .ok (.iload_n 1, 1) := by decide +kernel
theorem dX4_pageByte_2 : decode cX4_pageByte 2 = .ok (.invokevirtual 123, 3) := by decide +kernel
theorem dX4_pageByte_5 : decode cX4_pageByte 5 = .ok (.iload_n 2, 1) := by decide +kernel
theorem dX4_pageByte_6 : decode cX4_pageByte 6 = .ok (.ifCond .lt 10, 3) := by decide +kernel
theorem dX4_pageByte_9 : decode cX4_pageByte 9 = .ok (.iload_n 2, 1) := by decide +kernel
theorem dX4_pageByte_10 : decode cX4_pageByte 10 = .ok (.sipush 128, 3) := by decide +kernel
theorem dX4_pageByte_13 : decode cX4_pageByte 13 = .ok (.if_icmp .lt 13, 3) := by decide +kernel
theorem dX4_pageByte_16 : decode cX4_pageByte 16 = .ok (.new 135, 3) := by decide +kernel
theorem dX4_pageByte_19 : decode cX4_pageByte 19 = .ok (.dup, 1) := by decide +kernel
theorem dX4_pageByte_20 : decode cX4_pageByte 20 = .ok (.ldc 137, 2) := by decide +kernel
theorem dX4_pageByte_22 : decode cX4_pageByte 22 = .ok (.invokespecial 139, 3) := by decide +kernel
theorem dX4_pageByte_25 : decode cX4_pageByte 25 = .ok (.athrow, 1) := by decide +kernel
theorem dX4_pageByte_26 : decode cX4_pageByte 26 = .ok (.aload_n 0, 1) := by decide +kernel
theorem dX4_pageByte_27 : decode cX4_pageByte 27 = .ok (.getfield 20, 3) := by decide +kernel
theorem dX4_pageByte_30 : decode cX4_pageByte 30 = .ok (.iload_n 1, 1) := by decide +kernel
theorem dX4_pageByte_31 : decode cX4_pageByte 31 = .ok (.iload_n 2, 1) := by decide +kernel
theorem dX4_pageByte_32 : decode cX4_pageByte 32 = .ok (.invokevirtual 158, 3) := by decide +kernel
theorem dX4_pageByte_35 : decode cX4_pageByte 35 = .ok (.ireturn, 1) := by decide +kernel
theorem dX4_free_0 : decode cX4_free 0 = .ok (.aload_n 0, 1) := by decide +kernel
theorem dX4_free_1 : decode cX4_free 1 = .ok (.iload_n 1, 1) := by decide +kernel
theorem dX4_free_2 : decode cX4_free 2 = .ok (.invokevirtual 123, 3) := by decide +kernel
theorem dX4_free_5 : decode cX4_free 5 = .ok (.aload_n 0, 1) := by decide +kernel
theorem dX4_free_6 : decode cX4_free 6 = .ok (.getfield 12, 3) := by decide +kernel
theorem dX4_free_9 : decode cX4_free 9 = .ok (.iload_n 1, 1) := by decide +kernel
theorem dX4_free_10 : decode cX4_free 10 = .ok (.invokevirtual 161, 3) := by decide +kernel
theorem dX4_free_13 : decode cX4_free 13 = .ok (.ireturn, 1) := by decide +kernel
theorem dX4_gap_0 : decode cX4_gap 0 = .ok (.aload_n 0, 1) := by decide +kernel
theorem dX4_gap_1 : decode cX4_gap 1 = .ok (.iload_n 1, 1) := by decide +kernel
theorem dX4_gap_2 : decode cX4_gap 2 = .ok (.invokevirtual 123, 3) := by decide +kernel
theorem dX4_gap_5 : decode cX4_gap 5 = .ok (.aload_n 0, 1) := by decide +kernel
theorem dX4_gap_6 : decode cX4_gap 6 = .ok (.getfield 12, 3) := by decide +kernel
theorem dX4_gap_9 : decode cX4_gap 9 = .ok (.iload_n 1, 1) := by decide +kernel
theorem dX4_gap_10 : decode cX4_gap 10 = .ok (.aload_n 0, 1) := by decide +kernel
theorem dX4_gap_11 : decode cX4_gap 11 = .ok (.getfield 20, 3) := by decide +kernel
theorem dX4_gap_14 : decode cX4_gap 14 = .ok (.iload_n 1, 1) := by decide +kernel
theorem dX4_gap_15 : decode cX4_gap 15 = .ok (.invokevirtual 146, 3) := by decide +kernel
theorem dX4_gap_18 : decode cX4_gap 18 = .ok (.invokevirtual 164, 3) := by decide +kernel
theorem dX4_gap_21 : decode cX4_gap 21 = .ok (.ireturn, 1) := by decide +kernel
theorem dX4_kind_0 : decode cX4_kind 0 = .ok (.iload_n 1, 1) := by decide +kernel
theorem dX4_kind_1 : decode cX4_kind 1 = .ok (.ifCond .ge 5, 3) := by decide +kernel
theorem dX4_kind_4 : decode cX4_kind 4 = .ok (.iconst 0, 1) := by decide +kernel
theorem dX4_kind_5 : decode cX4_kind 5 = .ok (.ireturn, 1) := by decide +kernel
theorem dX4_kind_6 : decode cX4_kind 6 = .ok (.iload_n 1, 1) := by decide +kernel
theorem dX4_kind_7 : decode cX4_kind 7 = .ok (.invokestatic 167, 3) := by decide +kernel
theorem dX4_kind_10 : decode cX4_kind 10 = .ok (.istore_n 2, 1) := by decide +kernel
theorem dX4_kind_11 : decode cX4_kind 11 = .ok (.iload_n 1, 1) := by decide +kernel
theorem dX4_kind_12 : decode cX4_kind 12 = .ok (.invokestatic 170, 3) := by decide +kernel
theorem dX4_kind_15 : decode cX4_kind 15 = .ok (.istore_n 3, 1) := by decide +kernel
theorem dX4_kind_16 : decode cX4_kind 16 = .ok (.iload_n 2, 1) := by decide +kernel
theorem dX4_kind_17 : decode cX4_kind 17 = .ok (.aload_n 0, 1) := by decide +kernel
theorem dX4_kind_18 : decode cX4_kind 18 = .ok (.getfield 20, 3) := by decide +kernel
theorem dX4_kind_21 : decode cX4_kind 21 = .ok (.getfield 143, 3) := by decide +kernel
theorem dX4_kind_24 : decode cX4_kind 24 = .ok (.if_icmp .ge 27, 3) := by decide +kernel
theorem dX4_kind_27 : decode cX4_kind 27 = .ok (.iload_n 3, 1) := by decide +kernel
theorem dX4_kind_28 : decode cX4_kind 28 = .ok (.aload_n 0, 1) := by decide +kernel
theorem dX4_kind_29 : decode cX4_kind 29 = .ok (.getfield 20, 3) := by decide +kernel
theorem dX4_kind_32 : decode cX4_kind 32 = .ok (.iload_n 2, 1) := by decide +kernel
theorem dX4_kind_33 : decode cX4_kind 33 = .ok (.invokevirtual 146, 3) := by decide +kernel
theorem dX4_kind_36 : decode cX4_kind 36 = .ok (.if_icmp .ge 15, 3) := by decide +kernel
theorem dX4_kind_39 : decode cX4_kind 39 = .ok (.aload_n 0, 1) := by decide +kernel
theorem dX4_kind_40 : decode cX4_kind 40 = .ok (.getfield 20, 3) := by decide +kernel
theorem dX4_kind_43 : decode cX4_kind 43 = .ok (.iload_n 2, 1) := by decide +kernel
theorem dX4_kind_44 : decode cX4_kind 44 = .ok (.iload_n 3, 1) := by decide +kernel
theorem dX4_kind_45 : decode cX4_kind 45 = .ok (.invokevirtual 173, 3) := by decide +kernel
theorem dX4_kind_48 : decode cX4_kind 48 = .ok (.ifCond .ne 5, 3) := by decide +kernel
theorem dX4_kind_51 : decode cX4_kind 51 = .ok (.iconst 0, 1) := by decide +kernel
theorem dX4_kind_52 : decode cX4_kind 52 = .ok (.ireturn, 1) := by decide +kernel
theorem dX4_kind_53 : decode cX4_kind 53 = .ok (.aload_n 0, 1) := by decide +kernel
theorem dX4_kind_54 : decode cX4_kind 54 = .ok (.getfield 20, 3) := by decide +kernel
theorem dX4_kind_57 : decode cX4_kind 57 = .ok (.iload_n 2, 1) := by decide +kernel
theorem dX4_kind_58 : decode cX4_kind 58 = .ok (.iload_n 3, 1) := by decide +kernel
theorem dX4_kind_59 : decode cX4_kind 59 = .ok (.iconst 0, 1) := by decide +kernel
theorem dX4_kind_60 : decode cX4_kind 60 = .ok (.invokevirtual 176, 3) := by decide +kernel
theorem dX4_kind_63 : decode cX4_kind 63 = .ok (.istore 4, 2) := by decide +kernel
theorem dX4_kind_65 : decode cX4_kind 65 = .ok (.iload 4, 2) := by decide +kernel
theorem dX4_kind_67 : decode cX4_kind 67 = .ok (.iconst 2, 1) := by decide +kernel
theorem dX4_kind_68 : decode cX4_kind 68 = .ok (.if_icmp .eq 9, 3) := by decide +kernel
theorem dX4_kind_71 : decode cX4_kind 71 = .ok (.iload 4, 2) := by decide +kernel
theorem dX4_kind_73 : decode cX4_kind 73 = .ok (.iconst 3, 1) := by decide +kernel
theorem dX4_kind_74 : decode cX4_kind 74 = .ok (.if_icmp .ne 8, 3) := by decide +kernel
theorem dX4_kind_77 : decode cX4_kind 77 = .ok (.iload 4, 2) := by decide +kernel
theorem dX4_kind_79 : decode cX4_kind 79 = .ok (.goto 4, 3) := by decide +kernel
theorem dX4_kind_82 : decode cX4_kind 82 = .ok (.iconst 1, 1) := by decide +kernel
theorem dX4_kind_83 : decode cX4_kind 83 = .ok (.ireturn, 1) := by decide +kernel
theorem dX4_notes_0 : decode cX4_notes 0 = .ok (.aload_n 0, 1) := by decide +kernel
theorem dX4_notes_1 : decode cX4_notes 1 = .ok (.iconst 2, 1) := by decide +kernel
theorem dX4_notes_2 : decode cX4_notes 2 = .ok (.invokevirtual 129, 3) := by decide +kernel
theorem dX4_notes_5 : decode cX4_notes 5 = .ok (.ireturn, 1) := by decide +kernel
theorem dX4_moves_0 : decode cX4_moves 0 = .ok (.aload_n 0, 1) := by decide +kernel
theorem dX4_moves_1 : decode cX4_moves 1 = .ok (.getfield 20, 3) := by decide +kernel
theorem dX4_moves_4 : decode cX4_moves 4 = .ok (.getfield 179, 3) := by decide +kernel
theorem dX4_moves_7 : decode cX4_moves 7 = .ok (.ireturn, 1) := by decide +kernel
theorem dX4_returns_0 : decode cX4_returns 0 = .ok (.aload_n 0, 1) := by decide +kernel
theorem dX4_returns_1 : decode cX4_returns 1 = .ok (.getfield 20, 3) := by decide +kernel
theorem dX4_returns_4 : decode cX4_returns 4 = .ok (.getfield 182, 3) := by decide +kernel
theorem dX4_returns_7 : decode cX4_returns 7 = .ok (.ireturn, 1) := by decide +kernel
theorem dX4_compactions_0 : decode cX4_compactions 0 = .ok (.aload_n 0, 1) := by decide +kernel
theorem dX4_compactions_1 : decode cX4_compactions 1 = .ok (.getfield 20, 3) := by decide +kernel
theorem dX4_compactions_4 : decode cX4_compactions 4 = .ok (.getfield 185, 3) := by decide +kernel
theorem dX4_compactions_7 : decode cX4_compactions 7 = .ok (.ireturn, 1) := by decide +kernel
theorem dX4_fillFactor_0 : decode cX4_fillFactor 0 = .ok (.aload_n 0, 1) := by decide +kernel
theorem dX4_fillFactor_1 : decode cX4_fillFactor 1 = .ok (.getfield 20, 3) := by decide +kernel
theorem dX4_fillFactor_4 : decode cX4_fillFactor 4 = .ok (.getfield 143, 3) := by decide +kernel
theorem dX4_fillFactor_7 : decode cX4_fillFactor 7 = .ok (.ifCond .gt 5, 3) := by decide +kernel
theorem dX4_fillFactor_10 : decode cX4_fillFactor 10 = .ok (.dconst 0, 1) := by decide +kernel
theorem dX4_fillFactor_11 : decode cX4_fillFactor 11 = .ok (.dreturn, 1) := by decide +kernel
theorem dX4_fillFactor_12 : decode cX4_fillFactor 12 = .ok (.iconst 0, 1) := by decide +kernel
theorem dX4_fillFactor_13 : decode cX4_fillFactor 13 = .ok (.istore_n 1, 1) := by decide +kernel
theorem dX4_fillFactor_14 : decode cX4_fillFactor 14 = .ok (.iconst 0, 1) := by decide +kernel
theorem dX4_fillFactor_15 : decode cX4_fillFactor 15 = .ok (.istore_n 2, 1) := by decide +kernel
theorem dX4_fillFactor_16 : decode cX4_fillFactor 16 = .ok (.iload_n 2, 1) := by decide +kernel
theorem dX4_fillFactor_17 : decode cX4_fillFactor 17 = .ok (.aload_n 0, 1) := by decide +kernel
theorem dX4_fillFactor_18 : decode cX4_fillFactor 18 = .ok (.getfield 20, 3) := by decide +kernel
theorem dX4_fillFactor_21 : decode cX4_fillFactor 21 = .ok (.getfield 143, 3) := by decide +kernel
theorem dX4_fillFactor_24 : decode cX4_fillFactor 24 = .ok (.if_icmp .ge 20, 3) := by decide +kernel
theorem dX4_fillFactor_27 : decode cX4_fillFactor 27 = .ok (.iload_n 1, 1) := by decide +kernel
theorem dX4_fillFactor_28 : decode cX4_fillFactor 28 = .ok (.aload_n 0, 1) := by decide +kernel
theorem dX4_fillFactor_29 : decode cX4_fillFactor 29 = .ok (.getfield 12, 3) := by decide +kernel
theorem dX4_fillFactor_32 : decode cX4_fillFactor 32 = .ok (.iload_n 2, 1) := by decide +kernel
theorem dX4_fillFactor_33 : decode cX4_fillFactor 33 = .ok (.invokevirtual 188, 3) := by decide +kernel
theorem dX4_fillFactor_36 : decode cX4_fillFactor 36 = .ok (.iadd, 1) := by decide +kernel
theorem dX4_fillFactor_37 : decode cX4_fillFactor 37 = .ok (.istore_n 1, 1) := by decide +kernel
theorem dX4_fillFactor_38 : decode cX4_fillFactor 38 = .ok (.iinc 2 1, 3) := by decide +kernel
theorem dX4_fillFactor_41 : decode cX4_fillFactor 41 = .ok (.goto (-25), 3) := by decide +kernel
theorem dX4_fillFactor_44 : decode cX4_fillFactor 44 = .ok (.iload_n 1, 1) := by decide +kernel
theorem dX4_fillFactor_45 : decode cX4_fillFactor 45 = .ok (.i2d, 1) := by decide +kernel
theorem dX4_fillFactor_46 : decode cX4_fillFactor 46 = .ok (.sipush 128, 3) := by decide +kernel
theorem dX4_fillFactor_49 : decode cX4_fillFactor 49 = .ok (.aload_n 0, 1) := by decide +kernel
theorem dX4_fillFactor_50 : decode cX4_fillFactor 50 = .ok (.getfield 20, 3) := by decide +kernel
theorem dX4_fillFactor_53 : decode cX4_fillFactor 53 = .ok (.getfield 143, 3) := by decide +kernel
theorem dX4_fillFactor_56 : decode cX4_fillFactor 56 = .ok (.imul, 1) := by decide +kernel
theorem dX4_fillFactor_57 : decode cX4_fillFactor 57 = .ok (.i2d, 1) := by decide +kernel
theorem dX4_fillFactor_58 : decode cX4_fillFactor 58 = .ok (.ddiv, 1) := by decide +kernel
theorem dX4_fillFactor_59 : decode cX4_fillFactor 59 = .ok (.dreturn, 1) := by decide +kernel
theorem dX4_ifInserted_0 : decode cX4_ifInserted 0 = .ok (.iload_n 1, 1) := by decide +kernel
theorem dX4_ifInserted_1 : decode cX4_ifInserted 1 = .ok (.invokestatic 191, 3) := by decide +kernel
theorem dX4_ifInserted_4 : decode cX4_ifInserted 4 = .ok (.aload_n 0, 1) := by decide +kernel
theorem dX4_ifInserted_5 : decode cX4_ifInserted 5 = .ok (.getfield 12, 3) := by decide +kernel
theorem dX4_ifInserted_8 : decode cX4_ifInserted 8 = .ok (.iload_n 1, 1) := by decide +kernel
theorem dX4_ifInserted_9 : decode cX4_ifInserted 9 = .ok (.invokestatic 78, 3) := by decide +kernel
theorem dX4_ifInserted_12 : decode cX4_ifInserted 12 = .ok (.iconst (-1), 1) := by decide +kernel
theorem dX4_ifInserted_13 : decode cX4_ifInserted 13 = .ok (.iconst (-1), 1) := by decide +kernel
theorem dX4_ifInserted_14 : decode cX4_ifInserted 14 = .ok (.invokevirtual 82, 3) := by decide +kernel
theorem dX4_ifInserted_17 : decode cX4_ifInserted 17 = .ok (.istore_n 2, 1) := by decide +kernel
theorem dX4_ifInserted_18 : decode cX4_ifInserted 18 = .ok (.iload_n 2, 1) := by decide +kernel
theorem dX4_ifInserted_19 : decode cX4_ifInserted 19 = .ok (.iconst (-1), 1) := by decide +kernel
theorem dX4_ifInserted_20 : decode cX4_ifInserted 20 = .ok (.if_icmp .ne 7, 3) := by decide +kernel
theorem dX4_ifInserted_23 : decode cX4_ifInserted 23 = .ok (.iconst (-1), 1) := by decide +kernel
theorem dX4_ifInserted_24 : decode cX4_ifInserted 24 = .ok (.goto 15, 3) := by decide +kernel
theorem dX4_ifInserted_27 : decode cX4_ifInserted 27 = .ok (.iload_n 2, 1) := by decide +kernel
theorem dX4_ifInserted_28 : decode cX4_ifInserted 28 = .ok (.aload_n 0, 1) := by decide +kernel
theorem dX4_ifInserted_29 : decode cX4_ifInserted 29 = .ok (.getfield 12, 3) := by decide +kernel
theorem dX4_ifInserted_32 : decode cX4_ifInserted 32 = .ok (.iload_n 2, 1) := by decide +kernel
theorem dX4_ifInserted_33 : decode cX4_ifInserted 33 = .ok (.invokevirtual 194, 3) := by decide +kernel
theorem dX4_ifInserted_36 : decode cX4_ifInserted 36 = .ok (.invokestatic 149, 3) := by decide +kernel
theorem dX4_ifInserted_39 : decode cX4_ifInserted 39 = .ok (.ireturn, 1) := by decide +kernel
theorem dX4_ifUpdated_0 : decode cX4_ifUpdated 0 = .ok (.aload_n 0, 1) := by decide +kernel
theorem dX4_ifUpdated_1 : decode cX4_ifUpdated 1 = .ok (.iload_n 1, 1) := by decide +kernel
theorem dX4_ifUpdated_2 : decode cX4_ifUpdated 2 = .ok (.invokevirtual 98, 3) := by decide +kernel
theorem dX4_ifUpdated_5 : decode cX4_ifUpdated 5 = .ok (.iload_n 2, 1) := by decide +kernel
theorem dX4_ifUpdated_6 : decode cX4_ifUpdated 6 = .ok (.invokestatic 191, 3) := by decide +kernel
theorem dX4_ifUpdated_9 : decode cX4_ifUpdated 9 = .ok (.aload_n 0, 1) := by decide +kernel
theorem dX4_ifUpdated_10 : decode cX4_ifUpdated 10 = .ok (.iload_n 1, 1) := by decide +kernel
theorem dX4_ifUpdated_11 : decode cX4_ifUpdated 11 = .ok (.iload_n 2, 1) := by decide +kernel
theorem dX4_ifUpdated_12 : decode cX4_ifUpdated 12 = .ok (.invokevirtual 101, 3) := by decide +kernel
theorem dX4_ifUpdated_15 : decode cX4_ifUpdated 15 = .ok (.ireturn, 1) := by decide +kernel
theorem dX4_greatestAtHome_0 : decode cX4_greatestAtHome 0 = .ok (.aload_n 0, 1) := by decide +kernel
theorem dX4_greatestAtHome_1 : decode cX4_greatestAtHome 1 = .ok (.iload_n 1, 1) := by decide +kernel
theorem dX4_greatestAtHome_2 : decode cX4_greatestAtHome 2 = .ok (.invokevirtual 98, 3) := by decide +kernel
theorem dX4_greatestAtHome_5 : decode cX4_greatestAtHome 5 = .ok (.bipush 60, 2) := by decide +kernel
theorem dX4_greatestAtHome_7 : decode cX4_greatestAtHome 7 = .ok (.aload_n 0, 1) := by decide +kernel
theorem dX4_greatestAtHome_8 : decode cX4_greatestAtHome 8 = .ok (.iload_n 1, 1) := by decide +kernel
theorem dX4_greatestAtHome_9 : decode cX4_greatestAtHome 9 = .ok (.invokevirtual 197, 3) := by decide +kernel
theorem dX4_greatestAtHome_12 : decode cX4_greatestAtHome 12 = .ok (.iconst 1, 1) := by decide +kernel
theorem dX4_greatestAtHome_13 : decode cX4_greatestAtHome 13 = .ok (.isub, 1) := by decide +kernel
theorem dX4_greatestAtHome_14 : decode cX4_greatestAtHome 14 = .ok (.invokestatic 200, 3) := by decide +kernel
theorem dX4_greatestAtHome_17 : decode cX4_greatestAtHome 17 = .ok (.ireturn, 1) := by decide +kernel
theorem dX4_capacity_0 : decode cX4_capacity 0 = .ok (.iload_n 1, 1) := by decide +kernel
theorem dX4_capacity_1 : decode cX4_capacity 1 = .ok (.invokestatic 191, 3) := by decide +kernel
theorem dX4_capacity_4 : decode cX4_capacity 4 = .ok (.iload_n 1, 1) := by decide +kernel
theorem dX4_capacity_5 : decode cX4_capacity 5 = .ok (.invokestatic 78, 3) := by decide +kernel
theorem dX4_capacity_8 : decode cX4_capacity 8 = .ok (.istore_n 2, 1) := by decide +kernel
theorem dX4_capacity_9 : decode cX4_capacity 9 = .ok (.iconst 0, 1) := by decide +kernel
theorem dX4_capacity_10 : decode cX4_capacity 10 = .ok (.istore_n 3, 1) := by decide +kernel
theorem dX4_capacity_11 : decode cX4_capacity 11 = .ok (.iconst 0, 1) := by decide +kernel
theorem dX4_capacity_12 : decode cX4_capacity 12 = .ok (.istore 4, 2) := by decide +kernel
theorem dX4_capacity_14 : decode cX4_capacity 14 = .ok (.iload 4, 2) := by decide +kernel
theorem dX4_capacity_16 : decode cX4_capacity 16 = .ok (.bipush 8, 2) := by decide +kernel
theorem dX4_capacity_18 : decode cX4_capacity 18 = .ok (.if_icmp .ge 22, 3) := by decide +kernel
theorem dX4_capacity_21 : decode cX4_capacity 21 = .ok (.iload_n 3, 1) := by decide +kernel
theorem dX4_capacity_22 : decode cX4_capacity 22 = .ok (.aload_n 0, 1) := by decide +kernel
theorem dX4_capacity_23 : decode cX4_capacity 23 = .ok (.getfield 12, 3) := by decide +kernel
theorem dX4_capacity_26 : decode cX4_capacity 26 = .ok (.iload 4, 2) := by decide +kernel
theorem dX4_capacity_28 : decode cX4_capacity 28 = .ok (.iload_n 2, 1) := by decide +kernel
theorem dX4_capacity_29 : decode cX4_capacity 29 = .ok (.invokevirtual 205, 3) := by decide +kernel
theorem dX4_capacity_32 : decode cX4_capacity 32 = .ok (.iadd, 1) := by decide +kernel
theorem dX4_capacity_33 : decode cX4_capacity 33 = .ok (.istore_n 3, 1) := by decide +kernel
theorem dX4_capacity_34 : decode cX4_capacity 34 = .ok (.iinc 4 1, 3) := by decide +kernel
theorem dX4_capacity_37 : decode cX4_capacity 37 = .ok (.goto (-23), 3) := by decide +kernel
theorem dX4_capacity_40 : decode cX4_capacity 40 = .ok (.iload_n 3, 1) := by decide +kernel
theorem dX4_capacity_41 : decode cX4_capacity 41 = .ok (.ireturn, 1) := by decide +kernel
theorem dX4_firstError_0 : decode cX4_firstError 0 = .ok (.aload_n 0, 1) := by decide +kernel
theorem dX4_firstError_1 : decode cX4_firstError 1 = .ok (.getfield 39, 3) := by decide +kernel
theorem dX4_firstError_4 : decode cX4_firstError 4 = .ok (.invokevirtual 208, 3) := by decide +kernel
theorem dX4_firstError_7 : decode cX4_firstError 7 = .ok (.iconst 0, 1) := by decide +kernel
theorem dX4_firstError_8 : decode cX4_firstError 8 = .ok (.istore_n 1, 1) := by decide +kernel
theorem dX4_firstError_9 : decode cX4_firstError 9 = .ok (.iload_n 1, 1) := by decide +kernel
theorem dX4_firstError_10 : decode cX4_firstError 10 = .ok (.aload_n 0, 1) := by decide +kernel
theorem dX4_firstError_11 : decode cX4_firstError 11 = .ok (.getfield 26, 3) := by decide +kernel
theorem dX4_firstError_14 : decode cX4_firstError 14 = .ok (.getfield 54, 3) := by decide +kernel
theorem dX4_firstError_17 : decode cX4_firstError 17 = .ok (.if_icmp .ge 29, 3) := by decide +kernel
theorem dX4_firstError_20 : decode cX4_firstError 20 = .ok (.aload_n 0, 1) := by decide +kernel
theorem dX4_firstError_21 : decode cX4_firstError 21 = .ok (.getfield 39, 3) := by decide +kernel
theorem dX4_firstError_24 : decode cX4_firstError 24 = .ok (.aload_n 0, 1) := by decide +kernel
theorem dX4_firstError_25 : decode cX4_firstError 25 = .ok (.getfield 26, 3) := by decide +kernel
theorem dX4_firstError_28 : decode cX4_firstError 28 = .ok (.iload_n 1, 1) := by decide +kernel
theorem dX4_firstError_29 : decode cX4_firstError 29 = .ok (.invokevirtual 211, 3) := by decide +kernel
theorem dX4_firstError_32 : decode cX4_firstError 32 = .ok (.invokevirtual 214, 3) := by decide +kernel
theorem dX4_firstError_35 : decode cX4_firstError 35 = .ok (.ifCond .ne 5, 3) := by decide +kernel
theorem dX4_firstError_38 : decode cX4_firstError 38 = .ok (.iload_n 1, 1) := by decide +kernel
theorem dX4_firstError_39 : decode cX4_firstError 39 = .ok (.ireturn, 1) := by decide +kernel
theorem dX4_firstError_40 : decode cX4_firstError 40 = .ok (.iinc 1 1, 3) := by decide +kernel
theorem dX4_firstError_43 : decode cX4_firstError 43 = .ok (.goto (-34), 3) := by decide +kernel
theorem dX4_firstError_46 : decode cX4_firstError 46 = .ok (.aload_n 0, 1) := by decide +kernel
theorem dX4_firstError_47 : decode cX4_firstError 47 = .ok (.getfield 26, 3) := by decide +kernel
theorem dX4_firstError_50 : decode cX4_firstError 50 = .ok (.getfield 54, 3) := by decide +kernel
theorem dX4_firstError_53 : decode cX4_firstError 53 = .ok (.ireturn, 1) := by decide +kernel
theorem dX4_run_0 : decode cX4_run 0 = .ok (.aload_n 0, 1) := by decide +kernel
theorem dX4_run_1 : decode cX4_run 1 = .ok (.invokevirtual 218, 3) := by decide +kernel
theorem dX4_run_4 : decode cX4_run 4 = .ok (.aload_n 0, 1) := by decide +kernel
theorem dX4_run_5 : decode cX4_run 5 = .ok (.getfield 26, 3) := by decide +kernel
theorem dX4_run_8 : decode cX4_run 8 = .ok (.getfield 54, 3) := by decide +kernel
theorem dX4_run_11 : decode cX4_run 11 = .ok (.if_icmp .lt 13, 3) := by decide +kernel
theorem dX4_run_14 : decode cX4_run 14 = .ok (.aload_n 0, 1) := by decide +kernel
theorem dX4_run_15 : decode cX4_run 15 = .ok (.getfield 39, 3) := by decide +kernel
theorem dX4_run_18 : decode cX4_run 18 = .ok (.invokevirtual 221, 3) := by decide +kernel
theorem dX4_run_21 : decode cX4_run 21 = .ok (.ifCond .ne 13, 3) := by decide +kernel
theorem dX4_run_24 : decode cX4_run 24 = .ok (.new 61, 3) := by decide +kernel
theorem dX4_run_27 : decode cX4_run 27 = .ok (.dup, 1) := by decide +kernel
theorem dX4_run_28 : decode cX4_run 28 = .ok (.ldc 225, 2) := by decide +kernel
theorem dX4_run_30 : decode cX4_run 30 = .ok (.invokespecial 65, 3) := by decide +kernel
theorem dX4_run_33 : decode cX4_run 33 = .ok (.athrow, 1) := by decide +kernel
theorem dX4_run_34 : decode cX4_run 34 = .ok (.aload_n 0, 1) := by decide +kernel
theorem dX4_run_35 : decode cX4_run 35 = .ok (.invokevirtual 88, 3) := by decide +kernel
theorem dX4_run_38 : decode cX4_run 38 = .ok (.iconst 0, 1) := by decide +kernel
theorem dX4_run_39 : decode cX4_run 39 = .ok (.istore_n 1, 1) := by decide +kernel
theorem dX4_run_40 : decode cX4_run 40 = .ok (.iconst 0, 1) := by decide +kernel
theorem dX4_run_41 : decode cX4_run 41 = .ok (.istore_n 2, 1) := by decide +kernel
theorem dX4_run_42 : decode cX4_run 42 = .ok (.iconst 1, 1) := by decide +kernel
theorem dX4_run_43 : decode cX4_run 43 = .ok (.istore_n 3, 1) := by decide +kernel
theorem dX4_run_44 : decode cX4_run 44 = .ok (.iconst 0, 1) := by decide +kernel
theorem dX4_run_45 : decode cX4_run 45 = .ok (.istore 4, 2) := by decide +kernel
theorem dX4_run_47 : decode cX4_run 47 = .ok (.iload 4, 2) := by decide +kernel
theorem dX4_run_49 : decode cX4_run 49 = .ok (.aload_n 0, 1) := by decide +kernel
theorem dX4_run_50 : decode cX4_run 50 = .ok (.getfield 26, 3) := by decide +kernel
theorem dX4_run_53 : decode cX4_run 53 = .ok (.getfield 54, 3) := by decide +kernel
theorem dX4_run_56 : decode cX4_run 56 = .ok (.if_icmp .gt 64, 3) := by decide +kernel
theorem dX4_run_59 : decode cX4_run 59 = .ok (.iload_n 3, 1) := by decide +kernel
theorem dX4_run_60 : decode cX4_run 60 = .ok (.ifCond .eq 60, 3) := by decide +kernel
theorem dX4_run_63 : decode cX4_run 63 = .ok (.iload 4, 2) := by decide +kernel
theorem dX4_run_65 : decode cX4_run 65 = .ok (.aload_n 0, 1) := by decide +kernel
theorem dX4_run_66 : decode cX4_run 66 = .ok (.getfield 26, 3) := by decide +kernel
theorem dX4_run_69 : decode cX4_run 69 = .ok (.getfield 54, 3) := by decide +kernel
theorem dX4_run_72 : decode cX4_run 72 = .ok (.if_icmp .eq 17, 3) := by decide +kernel
theorem dX4_run_75 : decode cX4_run 75 = .ok (.aload_n 0, 1) := by decide +kernel
theorem dX4_run_76 : decode cX4_run 76 = .ok (.getfield 26, 3) := by decide +kernel
theorem dX4_run_79 : decode cX4_run 79 = .ok (.iload 4, 2) := by decide +kernel
theorem dX4_run_81 : decode cX4_run 81 = .ok (.invokevirtual 211, 3) := by decide +kernel
theorem dX4_run_84 : decode cX4_run 84 = .ok (.bipush 59, 2) := by decide +kernel
theorem dX4_run_86 : decode cX4_run 86 = .ok (.if_icmp .ne 28, 3) := by decide +kernel
theorem dX4_run_89 : decode cX4_run 89 = .ok (.aload_n 0, 1) := by decide +kernel
theorem dX4_run_90 : decode cX4_run 90 = .ok (.iload_n 2, 1) := by decide +kernel
theorem dX4_run_91 : decode cX4_run 91 = .ok (.iload 4, 2) := by decide +kernel
theorem dX4_run_93 : decode cX4_run 93 = .ok (.invokevirtual 227, 3) := by decide +kernel
theorem dX4_run_96 : decode cX4_run 96 = .ok (.istore_n 3, 1) := by decide +kernel
theorem dX4_run_97 : decode cX4_run 97 = .ok (.iload_n 1, 1) := by decide +kernel
theorem dX4_run_98 : decode cX4_run 98 = .ok (.iload_n 3, 1) := by decide +kernel
theorem dX4_run_99 : decode cX4_run 99 = .ok (.ifCond .eq 7, 3) := by decide +kernel
theorem dX4_run_102 : decode cX4_run 102 = .ok (.iconst 1, 1) := by decide +kernel
theorem dX4_run_103 : decode cX4_run 103 = .ok (.goto 4, 3) := by decide +kernel
theorem dX4_run_106 : decode cX4_run 106 = .ok (.iconst 0, 1) := by decide +kernel
theorem dX4_run_107 : decode cX4_run 107 = .ok (.iadd, 1) := by decide +kernel
theorem dX4_run_108 : decode cX4_run 108 = .ok (.istore_n 1, 1) := by decide +kernel
theorem dX4_run_109 : decode cX4_run 109 = .ok (.iload 4, 2) := by decide +kernel
theorem dX4_run_111 : decode cX4_run 111 = .ok (.iconst 1, 1) := by decide +kernel
theorem dX4_run_112 : decode cX4_run 112 = .ok (.iadd, 1) := by decide +kernel
theorem dX4_run_113 : decode cX4_run 113 = .ok (.istore_n 2, 1) := by decide +kernel
theorem dX4_run_114 : decode cX4_run 114 = .ok (.iinc 4 1, 3) := by decide +kernel
theorem dX4_run_117 : decode cX4_run 117 = .ok (.goto (-70), 3) := by decide +kernel
theorem dX4_run_120 : decode cX4_run 120 = .ok (.aload_n 0, 1) := by decide +kernel
theorem dX4_run_121 : decode cX4_run 121 = .ok (.getfield 26, 3) := by decide +kernel
theorem dX4_run_124 : decode cX4_run 124 = .ok (.invokevirtual 58, 3) := by decide +kernel
theorem dX4_run_127 : decode cX4_run 127 = .ok (.iload_n 1, 1) := by decide +kernel
theorem dX4_run_128 : decode cX4_run 128 = .ok (.ireturn, 1) := by decide +kernel
theorem dX4_undo_0 : decode cX4_undo 0 = .ok (.aload_n 0, 1) := by decide +kernel
theorem dX4_undo_1 : decode cX4_undo 1 = .ok (.getfield 231, 3) := by decide +kernel
theorem dX4_undo_4 : decode cX4_undo 4 = .ok (.ifCond .le 15, 3) := by decide +kernel
theorem dX4_undo_7 : decode cX4_undo 7 = .ok (.aload_n 0, 1) := by decide +kernel
theorem dX4_undo_8 : decode cX4_undo 8 = .ok (.getfield 231, 3) := by decide +kernel
theorem dX4_undo_11 : decode cX4_undo 11 = .ok (.aload_n 0, 1) := by decide +kernel
theorem dX4_undo_12 : decode cX4_undo 12 = .ok (.getfield 45, 3) := by decide +kernel
theorem dX4_undo_15 : decode cX4_undo 15 = .ok (.arraylength, 1) := by decide +kernel
theorem dX4_undo_16 : decode cX4_undo 16 = .ok (.if_icmp .le 13, 3) := by decide +kernel
theorem dX4_undo_19 : decode cX4_undo 19 = .ok (.new 70, 3) := by decide +kernel
theorem dX4_undo_22 : decode cX4_undo 22 = .ok (.dup, 1) := by decide +kernel
theorem dX4_undo_23 : decode cX4_undo 23 = .ok (.ldc 234, 2) := by decide +kernel
theorem dX4_undo_25 : decode cX4_undo 25 = .ok (.invokespecial 74, 3) := by decide +kernel
theorem dX4_undo_28 : decode cX4_undo 28 = .ok (.athrow, 1) := by decide +kernel
theorem dX4_undo_29 : decode cX4_undo 29 = .ok (.aload_n 0, 1) := by decide +kernel
theorem dX4_undo_30 : decode cX4_undo 30 = .ok (.dup, 1) := by decide +kernel
theorem dX4_undo_31 : decode cX4_undo 31 = .ok (.getfield 231, 3) := by decide +kernel
theorem dX4_undo_34 : decode cX4_undo 34 = .ok (.iconst 1, 1) := by decide +kernel
theorem dX4_undo_35 : decode cX4_undo 35 = .ok (.isub, 1) := by decide +kernel
theorem dX4_undo_36 : decode cX4_undo 36 = .ok (.putfield 231, 3) := by decide +kernel
theorem dX4_undo_39 : decode cX4_undo 39 = .ok (.aload_n 0, 1) := by decide +kernel
theorem dX4_undo_40 : decode cX4_undo 40 = .ok (.getfield 20, 3) := by decide +kernel
theorem dX4_undo_43 : decode cX4_undo 43 = .ok (.aload_n 0, 1) := by decide +kernel
theorem dX4_undo_44 : decode cX4_undo 44 = .ok (.getfield 45, 3) := by decide +kernel
theorem dX4_undo_47 : decode cX4_undo 47 = .ok (.aload_n 0, 1) := by decide +kernel
theorem dX4_undo_48 : decode cX4_undo 48 = .ok (.getfield 231, 3) := by decide +kernel
theorem dX4_undo_51 : decode cX4_undo 51 = .ok (.aaload, 1) := by decide +kernel
theorem dX4_undo_52 : decode cX4_undo 52 = .ok (.invokevirtual 236, 3) := by decide +kernel
theorem dX4_undo_55 : decode cX4_undo 55 = .ok (.aload_n 0, 1) := by decide +kernel
theorem dX4_undo_56 : decode cX4_undo 56 = .ok (.getfield 231, 3) := by decide +kernel
theorem dX4_undo_59 : decode cX4_undo 59 = .ok (.ireturn, 1) := by decide +kernel
theorem dX4_savedStates_0 : decode cX4_savedStates 0 = .ok (.aload_n 0, 1) := by decide +kernel
theorem dX4_savedStates_1 : decode cX4_savedStates 1 = .ok (.getfield 231, 3) := by decide +kernel
theorem dX4_savedStates_4 : decode cX4_savedStates 4 = .ok (.ireturn, 1) := by decide +kernel
theorem dX4_digest_0 : decode cX4_digest 0 = .ok (.ldc2_w 240, 3) := by decide +kernel
theorem dX4_digest_3 : decode cX4_digest 3 = .ok (.lstore_n 1, 1) := by decide +kernel
theorem dX4_digest_4 : decode cX4_digest 4 = .ok (.ldc2_w 242, 3) := by decide +kernel
theorem dX4_digest_7 : decode cX4_digest 7 = .ok (.lload_n 1, 1) := by decide +kernel
theorem dX4_digest_8 : decode cX4_digest 8 = .ok (.lmul, 1) := by decide +kernel
theorem dX4_digest_9 : decode cX4_digest 9 = .ok (.aload_n 0, 1) := by decide +kernel
theorem dX4_digest_10 : decode cX4_digest 10 = .ok (.getfield 20, 3) := by decide +kernel
theorem dX4_digest_13 : decode cX4_digest 13 = .ok (.getfield 143, 3) := by decide +kernel
theorem dX4_digest_16 : decode cX4_digest 16 = .ok (.i2l, 1) := by decide +kernel
theorem dX4_digest_17 : decode cX4_digest 17 = .ok (.ladd, 1) := by decide +kernel
theorem dX4_digest_18 : decode cX4_digest 18 = .ok (.lstore_n 1, 1) := by decide +kernel
theorem dX4_digest_19 : decode cX4_digest 19 = .ok (.ldc2_w 242, 3) := by decide +kernel
theorem dX4_digest_22 : decode cX4_digest 22 = .ok (.lload_n 1, 1) := by decide +kernel
theorem dX4_digest_23 : decode cX4_digest 23 = .ok (.lmul, 1) := by decide +kernel
theorem dX4_digest_24 : decode cX4_digest 24 = .ok (.aload_n 0, 1) := by decide +kernel
theorem dX4_digest_25 : decode cX4_digest 25 = .ok (.invokevirtual 244, 3) := by decide +kernel
theorem dX4_digest_28 : decode cX4_digest 28 = .ok (.i2l, 1) := by decide +kernel
theorem dX4_digest_29 : decode cX4_digest 29 = .ok (.ladd, 1) := by decide +kernel
theorem dX4_digest_30 : decode cX4_digest 30 = .ok (.lstore_n 1, 1) := by decide +kernel
theorem dX4_digest_31 : decode cX4_digest 31 = .ok (.ldc2_w 242, 3) := by decide +kernel
theorem dX4_digest_34 : decode cX4_digest 34 = .ok (.lload_n 1, 1) := by decide +kernel
theorem dX4_digest_35 : decode cX4_digest 35 = .ok (.lmul, 1) := by decide +kernel
theorem dX4_digest_36 : decode cX4_digest 36 = .ok (.aload_n 0, 1) := by decide +kernel
theorem dX4_digest_37 : decode cX4_digest 37 = .ok (.invokevirtual 247, 3) := by decide +kernel
theorem dX4_digest_40 : decode cX4_digest 40 = .ok (.i2l, 1) := by decide +kernel
theorem dX4_digest_41 : decode cX4_digest 41 = .ok (.ladd, 1) := by decide +kernel
theorem dX4_digest_42 : decode cX4_digest 42 = .ok (.lstore_n 1, 1) := by decide +kernel
theorem dX4_digest_43 : decode cX4_digest 43 = .ok (.ldc2_w 242, 3) := by decide +kernel
theorem dX4_digest_46 : decode cX4_digest 46 = .ok (.lload_n 1, 1) := by decide +kernel
theorem dX4_digest_47 : decode cX4_digest 47 = .ok (.lmul, 1) := by decide +kernel
theorem dX4_digest_48 : decode cX4_digest 48 = .ok (.aload_n 0, 1) := by decide +kernel
theorem dX4_digest_49 : decode cX4_digest 49 = .ok (.getfield 20, 3) := by decide +kernel
theorem dX4_digest_52 : decode cX4_digest 52 = .ok (.getfield 179, 3) := by decide +kernel
theorem dX4_digest_55 : decode cX4_digest 55 = .ok (.i2l, 1) := by decide +kernel
theorem dX4_digest_56 : decode cX4_digest 56 = .ok (.ladd, 1) := by decide +kernel
theorem dX4_digest_57 : decode cX4_digest 57 = .ok (.lstore_n 1, 1) := by decide +kernel
theorem dX4_digest_58 : decode cX4_digest 58 = .ok (.ldc2_w 242, 3) := by decide +kernel
theorem dX4_digest_61 : decode cX4_digest 61 = .ok (.lload_n 1, 1) := by decide +kernel
theorem dX4_digest_62 : decode cX4_digest 62 = .ok (.lmul, 1) := by decide +kernel
theorem dX4_digest_63 : decode cX4_digest 63 = .ok (.aload_n 0, 1) := by decide +kernel
theorem dX4_digest_64 : decode cX4_digest 64 = .ok (.getfield 20, 3) := by decide +kernel
theorem dX4_digest_67 : decode cX4_digest 67 = .ok (.getfield 182, 3) := by decide +kernel
theorem dX4_digest_70 : decode cX4_digest 70 = .ok (.i2l, 1) := by decide +kernel
theorem dX4_digest_71 : decode cX4_digest 71 = .ok (.ladd, 1) := by decide +kernel
theorem dX4_digest_72 : decode cX4_digest 72 = .ok (.lstore_n 1, 1) := by decide +kernel
theorem dX4_digest_73 : decode cX4_digest 73 = .ok (.ldc2_w 242, 3) := by decide +kernel
theorem dX4_digest_76 : decode cX4_digest 76 = .ok (.lload_n 1, 1) := by decide +kernel
theorem dX4_digest_77 : decode cX4_digest 77 = .ok (.lmul, 1) := by decide +kernel
theorem dX4_digest_78 : decode cX4_digest 78 = .ok (.aload_n 0, 1) := by decide +kernel
theorem dX4_digest_79 : decode cX4_digest 79 = .ok (.getfield 20, 3) := by decide +kernel
theorem dX4_digest_82 : decode cX4_digest 82 = .ok (.getfield 185, 3) := by decide +kernel
theorem dX4_digest_85 : decode cX4_digest 85 = .ok (.i2l, 1) := by decide +kernel
theorem dX4_digest_86 : decode cX4_digest 86 = .ok (.ladd, 1) := by decide +kernel
theorem dX4_digest_87 : decode cX4_digest 87 = .ok (.lstore_n 1, 1) := by decide +kernel
theorem dX4_digest_88 : decode cX4_digest 88 = .ok (.iconst 0, 1) := by decide +kernel
theorem dX4_digest_89 : decode cX4_digest 89 = .ok (.istore_n 3, 1) := by decide +kernel
theorem dX4_digest_90 : decode cX4_digest 90 = .ok (.iload_n 3, 1) := by decide +kernel
theorem dX4_digest_91 : decode cX4_digest 91 = .ok (.aload_n 0, 1) := by decide +kernel
theorem dX4_digest_92 : decode cX4_digest 92 = .ok (.getfield 20, 3) := by decide +kernel
theorem dX4_digest_95 : decode cX4_digest 95 = .ok (.getfield 143, 3) := by decide +kernel
theorem dX4_digest_98 : decode cX4_digest 98 = .ok (.if_icmp .ge 84, 3) := by decide +kernel
theorem dX4_digest_101 : decode cX4_digest 101 = .ok (.ldc2_w 242, 3) := by decide +kernel
theorem dX4_digest_104 : decode cX4_digest 104 = .ok (.lload_n 1, 1) := by decide +kernel
theorem dX4_digest_105 : decode cX4_digest 105 = .ok (.lmul, 1) := by decide +kernel
theorem dX4_digest_106 : decode cX4_digest 106 = .ok (.aload_n 0, 1) := by decide +kernel
theorem dX4_digest_107 : decode cX4_digest 107 = .ok (.getfield 12, 3) := by decide +kernel
theorem dX4_digest_110 : decode cX4_digest 110 = .ok (.iload_n 3, 1) := by decide +kernel
theorem dX4_digest_111 : decode cX4_digest 111 = .ok (.invokevirtual 161, 3) := by decide +kernel
theorem dX4_digest_114 : decode cX4_digest 114 = .ok (.i2l, 1) := by decide +kernel
theorem dX4_digest_115 : decode cX4_digest 115 = .ok (.ladd, 1) := by decide +kernel
theorem dX4_digest_116 : decode cX4_digest 116 = .ok (.lstore_n 1, 1) := by decide +kernel
theorem dX4_digest_117 : decode cX4_digest 117 = .ok (.ldc2_w 242, 3) := by decide +kernel
theorem dX4_digest_120 : decode cX4_digest 120 = .ok (.lload_n 1, 1) := by decide +kernel
theorem dX4_digest_121 : decode cX4_digest 121 = .ok (.lmul, 1) := by decide +kernel
theorem dX4_digest_122 : decode cX4_digest 122 = .ok (.aload_n 0, 1) := by decide +kernel
theorem dX4_digest_123 : decode cX4_digest 123 = .ok (.getfield 12, 3) := by decide +kernel
theorem dX4_digest_126 : decode cX4_digest 126 = .ok (.iload_n 3, 1) := by decide +kernel
theorem dX4_digest_127 : decode cX4_digest 127 = .ok (.aload_n 0, 1) := by decide +kernel
theorem dX4_digest_128 : decode cX4_digest 128 = .ok (.getfield 20, 3) := by decide +kernel
theorem dX4_digest_131 : decode cX4_digest 131 = .ok (.iload_n 3, 1) := by decide +kernel
theorem dX4_digest_132 : decode cX4_digest 132 = .ok (.invokevirtual 146, 3) := by decide +kernel
theorem dX4_digest_135 : decode cX4_digest 135 = .ok (.invokevirtual 164, 3) := by decide +kernel
theorem dX4_digest_138 : decode cX4_digest 138 = .ok (.i2l, 1) := by decide +kernel
theorem dX4_digest_139 : decode cX4_digest 139 = .ok (.ladd, 1) := by decide +kernel
theorem dX4_digest_140 : decode cX4_digest 140 = .ok (.lstore_n 1, 1) := by decide +kernel
theorem dX4_digest_141 : decode cX4_digest 141 = .ok (.iconst 0, 1) := by decide +kernel
theorem dX4_digest_142 : decode cX4_digest 142 = .ok (.istore 4, 2) := by decide +kernel
theorem dX4_digest_144 : decode cX4_digest 144 = .ok (.iload 4, 2) := by decide +kernel
theorem dX4_digest_146 : decode cX4_digest 146 = .ok (.sipush 128, 3) := by decide +kernel
theorem dX4_digest_149 : decode cX4_digest 149 = .ok (.if_icmp .ge 27, 3) := by decide +kernel
theorem dX4_digest_152 : decode cX4_digest 152 = .ok (.ldc2_w 242, 3) := by decide +kernel
theorem dX4_digest_155 : decode cX4_digest 155 = .ok (.lload_n 1, 1) := by decide +kernel
theorem dX4_digest_156 : decode cX4_digest 156 = .ok (.lmul, 1) := by decide +kernel
theorem dX4_digest_157 : decode cX4_digest 157 = .ok (.aload_n 0, 1) := by decide +kernel
theorem dX4_digest_158 : decode cX4_digest 158 = .ok (.getfield 20, 3) := by decide +kernel
theorem dX4_digest_161 : decode cX4_digest 161 = .ok (.iload_n 3, 1) := by decide +kernel
theorem dX4_digest_162 : decode cX4_digest 162 = .ok (.iload 4, 2) := by decide +kernel
theorem dX4_digest_164 : decode cX4_digest 164 = .ok (.invokevirtual 158, 3) := by decide +kernel
theorem dX4_digest_167 : decode cX4_digest 167 = .ok (.i2l, 1) := by decide +kernel
theorem dX4_digest_168 : decode cX4_digest 168 = .ok (.ladd, 1) := by decide +kernel
theorem dX4_digest_169 : decode cX4_digest 169 = .ok (.lstore_n 1, 1) := by decide +kernel
theorem dX4_digest_170 : decode cX4_digest 170 = .ok (.iinc 4 1, 3) := by decide +kernel
theorem dX4_digest_173 : decode cX4_digest 173 = .ok (.goto (-29), 3) := by decide +kernel
theorem dX4_digest_176 : decode cX4_digest 176 = .ok (.iinc 3 1, 3) := by decide +kernel
theorem dX4_digest_179 : decode cX4_digest 179 = .ok (.goto (-89), 3) := by decide +kernel
theorem dX4_digest_182 : decode cX4_digest 182 = .ok (.ldc2_w 242, 3) := by decide +kernel
theorem dX4_digest_185 : decode cX4_digest 185 = .ok (.lload_n 1, 1) := by decide +kernel
theorem dX4_digest_186 : decode cX4_digest 186 = .ok (.lmul, 1) := by decide +kernel
theorem dX4_digest_187 : decode cX4_digest 187 = .ok (.aload_n 0, 1) := by decide +kernel
theorem dX4_digest_188 : decode cX4_digest 188 = .ok (.invokevirtual 250, 3) := by decide +kernel
theorem dX4_digest_191 : decode cX4_digest 191 = .ok (.d2f, 1) := by decide +kernel
theorem dX4_digest_192 : decode cX4_digest 192 = .ok (.invokestatic 254, 3) := by decide +kernel
theorem dX4_digest_195 : decode cX4_digest 195 = .ok (.i2l, 1) := by decide +kernel
theorem dX4_digest_196 : decode cX4_digest 196 = .ok (.ladd, 1) := by decide +kernel
theorem dX4_digest_197 : decode cX4_digest 197 = .ok (.lreturn, 1) := by decide +kernel
theorem dX4_bitsOfFraction_0 : decode cX4_bitsOfFraction 0 = .ok (.fload_n 0, 1) := by decide +kernel
theorem dX4_bitsOfFraction_1 : decode cX4_bitsOfFraction 1 = .ok (.fconst 0, 1) := by decide +kernel
theorem dX4_bitsOfFraction_2 : decode cX4_bitsOfFraction 2 = .ok (.fcmp .l, 1) := by decide +kernel
theorem dX4_bitsOfFraction_3 : decode cX4_bitsOfFraction 3 = .ok (.ifCond .gt 5, 3) := by decide +kernel
theorem dX4_bitsOfFraction_6 : decode cX4_bitsOfFraction 6 = .ok (.iconst 0, 1) := by decide +kernel
theorem dX4_bitsOfFraction_7 : decode cX4_bitsOfFraction 7 = .ok (.ireturn, 1) := by decide +kernel
theorem dX4_bitsOfFraction_8 : decode cX4_bitsOfFraction 8 = .ok (.bipush 127, 2) := by decide +kernel
theorem dX4_bitsOfFraction_10 : decode cX4_bitsOfFraction 10 = .ok (.istore_n 1, 1) := by decide +kernel
theorem dX4_bitsOfFraction_11 : decode cX4_bitsOfFraction 11 = .ok (.fload_n 0, 1) := by decide +kernel
theorem dX4_bitsOfFraction_12 : decode cX4_bitsOfFraction 12 = .ok (.fstore_n 2, 1) := by decide +kernel
theorem dX4_bitsOfFraction_13 : decode cX4_bitsOfFraction 13 = .ok (.iconst 0, 1) := by decide +kernel
theorem dX4_bitsOfFraction_14 : decode cX4_bitsOfFraction 14 = .ok (.istore_n 3, 1) := by decide +kernel
theorem dX4_bitsOfFraction_15 : decode cX4_bitsOfFraction 15 = .ok (.iload_n 3, 1) := by decide +kernel
theorem dX4_bitsOfFraction_16 : decode cX4_bitsOfFraction 16 = .ok (.bipush 126, 2) := by decide +kernel
theorem dX4_bitsOfFraction_18 : decode cX4_bitsOfFraction 18 = .ok (.if_icmp .ge 22, 3) := by decide +kernel
theorem dX4_bitsOfFraction_21 : decode cX4_bitsOfFraction 21 = .ok (.fload_n 2, 1) := by decide +kernel
theorem dX4_bitsOfFraction_22 : decode cX4_bitsOfFraction 22 = .ok (.fconst 1, 1) := by decide +kernel
theorem dX4_bitsOfFraction_23 : decode cX4_bitsOfFraction 23 = .ok (.fcmp .g, 1) := by decide +kernel
theorem dX4_bitsOfFraction_24 : decode cX4_bitsOfFraction 24 = .ok (.ifCond .ge 16, 3) := by decide +kernel
theorem dX4_bitsOfFraction_27 : decode cX4_bitsOfFraction 27 = .ok (.fload_n 2, 1) := by decide +kernel
theorem dX4_bitsOfFraction_28 : decode cX4_bitsOfFraction 28 = .ok (.fconst 2, 1) := by decide +kernel
theorem dX4_bitsOfFraction_29 : decode cX4_bitsOfFraction 29 = .ok (.fmul, 1) := by decide +kernel
theorem dX4_bitsOfFraction_30 : decode cX4_bitsOfFraction 30 = .ok (.fstore_n 2, 1) := by decide +kernel
theorem dX4_bitsOfFraction_31 : decode cX4_bitsOfFraction 31 = .ok (.iinc 1 (-1), 3) := by decide +kernel
theorem dX4_bitsOfFraction_34 : decode cX4_bitsOfFraction 34 = .ok (.iinc 3 1, 3) := by decide +kernel
theorem dX4_bitsOfFraction_37 : decode cX4_bitsOfFraction 37 = .ok (.goto (-22), 3) := by decide +kernel
theorem dX4_bitsOfFraction_40 : decode cX4_bitsOfFraction 40 = .ok (.iload_n 1, 1) := by decide +kernel
theorem dX4_bitsOfFraction_41 : decode cX4_bitsOfFraction 41 = .ok (.bipush 23, 2) := by decide +kernel
theorem dX4_bitsOfFraction_43 : decode cX4_bitsOfFraction 43 = .ok (.ishl, 1) := by decide +kernel
theorem dX4_bitsOfFraction_44 : decode cX4_bitsOfFraction 44 = .ok (.fload_n 2, 1) := by decide +kernel
theorem dX4_bitsOfFraction_45 : decode cX4_bitsOfFraction 45 = .ok (.fconst 1, 1) := by decide +kernel
theorem dX4_bitsOfFraction_46 : decode cX4_bitsOfFraction 46 = .ok (.fsub, 1) := by decide +kernel
theorem dX4_bitsOfFraction_47 : decode cX4_bitsOfFraction 47 = .ok (.ldc_w 258, 3) := by decide +kernel
theorem dX4_bitsOfFraction_50 : decode cX4_bitsOfFraction 50 = .ok (.fmul, 1) := by decide +kernel
theorem dX4_bitsOfFraction_51 : decode cX4_bitsOfFraction 51 = .ok (.f2i, 1) := by decide +kernel
theorem dX4_bitsOfFraction_52 : decode cX4_bitsOfFraction 52 = .ok (.iadd, 1) := by decide +kernel
theorem dX4_bitsOfFraction_53 : decode cX4_bitsOfFraction 53 = .ok (.ireturn, 1) := by decide +kernel
theorem dX4_requireRow_0 : decode cX4_requireRow 0 = .ok (.aload_n 0, 1) := by decide +kernel
theorem dX4_requireRow_1 : decode cX4_requireRow 1 = .ok (.iload_n 1, 1) := by decide +kernel
theorem dX4_requireRow_2 : decode cX4_requireRow 2 = .ok (.invokevirtual 259, 3) := by decide +kernel
theorem dX4_requireRow_5 : decode cX4_requireRow 5 = .ok (.ifCond .ne 14, 3) := by decide +kernel
theorem dX4_requireRow_8 : decode cX4_requireRow 8 = .ok (.new 135, 3) := by decide +kernel
theorem dX4_requireRow_11 : decode cX4_requireRow 11 = .ok (.dup, 1) := by decide +kernel
theorem dX4_requireRow_12 : decode cX4_requireRow 12 = .ok (.ldc_w 262, 3) := by decide +kernel
theorem dX4_requireRow_15 : decode cX4_requireRow 15 = .ok (.invokespecial 139, 3) := by decide +kernel
theorem dX4_requireRow_18 : decode cX4_requireRow 18 = .ok (.athrow, 1) := by decide +kernel
theorem dX4_requireRow_19 : decode cX4_requireRow 19 = .ok (.return_, 1) := by decide +kernel
theorem dX4_requirePage_0 : decode cX4_requirePage 0 = .ok (.iload_n 1, 1) := by decide +kernel
theorem dX4_requirePage_1 : decode cX4_requirePage 1 = .ok (.ifCond .lt 14, 3) := by decide +kernel
theorem dX4_requirePage_4 : decode cX4_requirePage 4 = .ok (.iload_n 1, 1) := by decide +kernel
theorem dX4_requirePage_5 : decode cX4_requirePage 5 = .ok (.aload_n 0, 1) := by decide +kernel
theorem dX4_requirePage_6 : decode cX4_requirePage 6 = .ok (.getfield 20, 3) := by decide +kernel
theorem dX4_requirePage_9 : decode cX4_requirePage 9 = .ok (.getfield 143, 3) := by decide +kernel
theorem dX4_requirePage_12 : decode cX4_requirePage 12 = .ok (.if_icmp .lt 14, 3) := by decide +kernel
theorem dX4_requirePage_15 : decode cX4_requirePage 15 = .ok (.new 135, 3) := by decide +kernel
theorem dX4_requirePage_18 : decode cX4_requirePage 18 = .ok (.dup, 1) := by decide +kernel
theorem dX4_requirePage_19 : decode cX4_requirePage 19 = .ok (.ldc_w 264, 3) := by decide +kernel
theorem dX4_requirePage_22 : decode cX4_requirePage 22 = .ok (.invokespecial 139, 3) := by decide +kernel
theorem dX4_requirePage_25 : decode cX4_requirePage 25 = .ok (.athrow, 1) := by decide +kernel
theorem dX4_requirePage_26 : decode cX4_requirePage 26 = .ok (.return_, 1) := by decide +kernel
theorem dX4_requireLength_0 : decode cX4_requireLength 0 = .ok (.iload_n 0, 1) := by decide +kernel
theorem dX4_requireLength_1 : decode cX4_requireLength 1 = .ok (.ifCond .lt 9, 3) := by decide +kernel
theorem dX4_requireLength_4 : decode cX4_requireLength 4 = .ok (.iload_n 0, 1) := by decide +kernel
theorem dX4_requireLength_5 : decode cX4_requireLength 5 = .ok (.bipush 60, 2) := by decide +kernel
theorem dX4_requireLength_7 : decode cX4_requireLength 7 = .ok (.if_icmp .le 14, 3) := by decide +kernel
theorem dX4_requireLength_10 : decode cX4_requireLength 10 = .ok (.new 61, 3) := by decide +kernel
theorem dX4_requireLength_13 : decode cX4_requireLength 13 = .ok (.dup, 1) := by decide +kernel
theorem dX4_requireLength_14 : decode cX4_requireLength 14 = .ok (.ldc_w 266, 3) := by decide +kernel
theorem dX4_requireLength_17 : decode cX4_requireLength 17 = .ok (.invokespecial 65, 3) := by decide +kernel
theorem dX4_requireLength_20 : decode cX4_requireLength 20 = .ok (.athrow, 1) := by decide +kernel
theorem dX4_requireLength_21 : decode cX4_requireLength 21 = .ok (.return_, 1) := by decide +kernel
theorem dX4_placeAt_0 : decode cX4_placeAt 0 = .ok (.bipush 100, 2) := by decide +kernel
theorem dX4_placeAt_2 : decode cX4_placeAt 2 = .ok (.iload_n 0, 1) := by decide +kernel
theorem dX4_placeAt_3 : decode cX4_placeAt 3 = .ok (.imul, 1) := by decide +kernel
theorem dX4_placeAt_4 : decode cX4_placeAt 4 = .ok (.iload_n 1, 1) := by decide +kernel
theorem dX4_placeAt_5 : decode cX4_placeAt 5 = .ok (.iadd, 1) := by decide +kernel
theorem dX4_placeAt_6 : decode cX4_placeAt 6 = .ok (.ireturn, 1) := by decide +kernel
theorem dX4_pageIn_0 : decode cX4_pageIn 0 = .ok (.iload_n 0, 1) := by decide +kernel
theorem dX4_pageIn_1 : decode cX4_pageIn 1 = .ok (.bipush 100, 2) := by decide +kernel
theorem dX4_pageIn_3 : decode cX4_pageIn 3 = .ok (.idiv, 1) := by decide +kernel
theorem dX4_pageIn_4 : decode cX4_pageIn 4 = .ok (.ireturn, 1) := by decide +kernel
theorem dX4_slotIn_0 : decode cX4_slotIn 0 = .ok (.iload_n 0, 1) := by decide +kernel
theorem dX4_slotIn_1 : decode cX4_slotIn 1 = .ok (.bipush 100, 2) := by decide +kernel
theorem dX4_slotIn_3 : decode cX4_slotIn 3 = .ok (.irem, 1) := by decide +kernel
theorem dX4_slotIn_4 : decode cX4_slotIn 4 = .ok (.ireturn, 1) := by decide +kernel
theorem dX4_targetAt_0 : decode cX4_targetAt 0 = .ok (.iload_n 1, 1) := by decide +kernel
theorem dX4_targetAt_1 : decode cX4_targetAt 1 = .ok (.invokestatic 167, 3) := by decide +kernel
theorem dX4_targetAt_4 : decode cX4_targetAt 4 = .ok (.istore_n 2, 1) := by decide +kernel
theorem dX4_targetAt_5 : decode cX4_targetAt 5 = .ok (.iload_n 1, 1) := by decide +kernel
theorem dX4_targetAt_6 : decode cX4_targetAt 6 = .ok (.invokestatic 170, 3) := by decide +kernel
theorem dX4_targetAt_9 : decode cX4_targetAt 9 = .ok (.istore_n 3, 1) := by decide +kernel
theorem dX4_targetAt_10 : decode cX4_targetAt 10 = .ok (.aload_n 0, 1) := by decide +kernel
theorem dX4_targetAt_11 : decode cX4_targetAt 11 = .ok (.getfield 20, 3) := by decide +kernel
theorem dX4_targetAt_14 : decode cX4_targetAt 14 = .ok (.iload_n 2, 1) := by decide +kernel
theorem dX4_targetAt_15 : decode cX4_targetAt 15 = .ok (.iload_n 3, 1) := by decide +kernel
theorem dX4_targetAt_16 : decode cX4_targetAt 16 = .ok (.iconst 1, 1) := by decide +kernel
theorem dX4_targetAt_17 : decode cX4_targetAt 17 = .ok (.invokevirtual 176, 3) := by decide +kernel
theorem dX4_targetAt_20 : decode cX4_targetAt 20 = .ok (.aload_n 0, 1) := by decide +kernel
theorem dX4_targetAt_21 : decode cX4_targetAt 21 = .ok (.getfield 20, 3) := by decide +kernel
theorem dX4_targetAt_24 : decode cX4_targetAt 24 = .ok (.iload_n 2, 1) := by decide +kernel
theorem dX4_targetAt_25 : decode cX4_targetAt 25 = .ok (.iload_n 3, 1) := by decide +kernel
theorem dX4_targetAt_26 : decode cX4_targetAt 26 = .ok (.iconst 2, 1) := by decide +kernel
theorem dX4_targetAt_27 : decode cX4_targetAt 27 = .ok (.invokevirtual 176, 3) := by decide +kernel
theorem dX4_targetAt_30 : decode cX4_targetAt 30 = .ok (.invokestatic 149, 3) := by decide +kernel
theorem dX4_targetAt_33 : decode cX4_targetAt 33 = .ok (.ireturn, 1) := by decide +kernel
theorem dX4_presentPlace_0 : decode cX4_presentPlace 0 = .ok (.aload_n 0, 1) := by decide +kernel
theorem dX4_presentPlace_1 : decode cX4_presentPlace 1 = .ok (.iload_n 1, 1) := by decide +kernel
theorem dX4_presentPlace_2 : decode cX4_presentPlace 2 = .ok (.invokevirtual 132, 3) := by decide +kernel
theorem dX4_presentPlace_5 : decode cX4_presentPlace 5 = .ok (.iconst 2, 1) := by decide +kernel
theorem dX4_presentPlace_6 : decode cX4_presentPlace 6 = .ok (.if_icmp .ne 11, 3) := by decide +kernel
theorem dX4_presentPlace_9 : decode cX4_presentPlace 9 = .ok (.aload_n 0, 1) := by decide +kernel
theorem dX4_presentPlace_10 : decode cX4_presentPlace 10 = .ok (.iload_n 1, 1) := by decide +kernel
theorem dX4_presentPlace_11 : decode cX4_presentPlace 11 = .ok (.invokevirtual 155, 3) := by decide +kernel
theorem dX4_presentPlace_14 : decode cX4_presentPlace 14 = .ok (.goto 4, 3) := by decide +kernel
theorem dX4_presentPlace_17 : decode cX4_presentPlace 17 = .ok (.iload_n 1, 1) := by decide +kernel
theorem dX4_presentPlace_18 : decode cX4_presentPlace 18 = .ok (.ireturn, 1) := by decide +kernel
theorem dX4_sizeAt_0 : decode cX4_sizeAt 0 = .ok (.aload_n 0, 1) := by decide +kernel
theorem dX4_sizeAt_1 : decode cX4_sizeAt 1 = .ok (.getfield 20, 3) := by decide +kernel
theorem dX4_sizeAt_4 : decode cX4_sizeAt 4 = .ok (.iload_n 1, 1) := by decide +kernel
theorem dX4_sizeAt_5 : decode cX4_sizeAt 5 = .ok (.invokestatic 167, 3) := by decide +kernel
theorem dX4_sizeAt_8 : decode cX4_sizeAt 8 = .ok (.iload_n 1, 1) := by decide +kernel
theorem dX4_sizeAt_9 : decode cX4_sizeAt 9 = .ok (.invokestatic 170, 3) := by decide +kernel
theorem dX4_sizeAt_12 : decode cX4_sizeAt 12 = .ok (.invokevirtual 173, 3) := by decide +kernel
theorem dX4_sizeAt_15 : decode cX4_sizeAt 15 = .ok (.ireturn, 1) := by decide +kernel
theorem dX4_homeSize_0 : decode cX4_homeSize 0 = .ok (.iconst 3, 1) := by decide +kernel
theorem dX4_homeSize_1 : decode cX4_homeSize 1 = .ok (.iload_n 0, 1) := by decide +kernel
theorem dX4_homeSize_2 : decode cX4_homeSize 2 = .ok (.iconst 1, 1) := by decide +kernel
theorem dX4_homeSize_3 : decode cX4_homeSize 3 = .ok (.iadd, 1) := by decide +kernel
theorem dX4_homeSize_4 : decode cX4_homeSize 4 = .ok (.invokestatic 268, 3) := by decide +kernel
theorem dX4_homeSize_7 : decode cX4_homeSize 7 = .ok (.ireturn, 1) := by decide +kernel
theorem dX4_movedSize_0 : decode cX4_movedSize 0 = .ok (.iload_n 0, 1) := by decide +kernel
theorem dX4_movedSize_1 : decode cX4_movedSize 1 = .ok (.iconst 3, 1) := by decide +kernel
theorem dX4_movedSize_2 : decode cX4_movedSize 2 = .ok (.iadd, 1) := by decide +kernel
theorem dX4_movedSize_3 : decode cX4_movedSize 3 = .ok (.ireturn, 1) := by decide +kernel
theorem dX4_lengthAt_0 : decode cX4_lengthAt 0 = .ok (.aload_n 0, 1) := by decide +kernel
theorem dX4_lengthAt_1 : decode cX4_lengthAt 1 = .ok (.iload_n 1, 1) := by decide +kernel
theorem dX4_lengthAt_2 : decode cX4_lengthAt 2 = .ok (.invokevirtual 271, 3) := by decide +kernel
theorem dX4_lengthAt_5 : decode cX4_lengthAt 5 = .ok (.istore_n 2, 1) := by decide +kernel
theorem dX4_lengthAt_6 : decode cX4_lengthAt 6 = .ok (.aload_n 0, 1) := by decide +kernel
theorem dX4_lengthAt_7 : decode cX4_lengthAt 7 = .ok (.getfield 20, 3) := by decide +kernel
theorem dX4_lengthAt_10 : decode cX4_lengthAt 10 = .ok (.iload_n 1, 1) := by decide +kernel
theorem dX4_lengthAt_11 : decode cX4_lengthAt 11 = .ok (.invokestatic 167, 3) := by decide +kernel
theorem dX4_lengthAt_14 : decode cX4_lengthAt 14 = .ok (.iload_n 1, 1) := by decide +kernel
theorem dX4_lengthAt_15 : decode cX4_lengthAt 15 = .ok (.invokestatic 170, 3) := by decide +kernel
theorem dX4_lengthAt_18 : decode cX4_lengthAt 18 = .ok (.iconst 0, 1) := by decide +kernel
theorem dX4_lengthAt_19 : decode cX4_lengthAt 19 = .ok (.invokevirtual 176, 3) := by decide +kernel
theorem dX4_lengthAt_22 : decode cX4_lengthAt 22 = .ok (.tableswitch 34 3 5 #[30, 26, 28], 26) := by decide +kernel
theorem dX4_lengthAt_48 : decode cX4_lengthAt 48 = .ok (.iconst 0, 1) := by decide +kernel
theorem dX4_lengthAt_49 : decode cX4_lengthAt 49 = .ok (.ireturn, 1) := by decide +kernel
theorem dX4_lengthAt_50 : decode cX4_lengthAt 50 = .ok (.iconst 1, 1) := by decide +kernel
theorem dX4_lengthAt_51 : decode cX4_lengthAt 51 = .ok (.ireturn, 1) := by decide +kernel
theorem dX4_lengthAt_52 : decode cX4_lengthAt 52 = .ok (.iload_n 2, 1) := by decide +kernel
theorem dX4_lengthAt_53 : decode cX4_lengthAt 53 = .ok (.iconst 3, 1) := by decide +kernel
theorem dX4_lengthAt_54 : decode cX4_lengthAt 54 = .ok (.isub, 1) := by decide +kernel
theorem dX4_lengthAt_55 : decode cX4_lengthAt 55 = .ok (.ireturn, 1) := by decide +kernel
theorem dX4_lengthAt_56 : decode cX4_lengthAt 56 = .ok (.iload_n 2, 1) := by decide +kernel
theorem dX4_lengthAt_57 : decode cX4_lengthAt 57 = .ok (.iconst 1, 1) := by decide +kernel
theorem dX4_lengthAt_58 : decode cX4_lengthAt 58 = .ok (.isub, 1) := by decide +kernel
theorem dX4_lengthAt_59 : decode cX4_lengthAt 59 = .ok (.ireturn, 1) := by decide +kernel
theorem dX4_rowByteAt_0 : decode cX4_rowByteAt 0 = .ok (.iload_n 1, 1) := by decide +kernel
theorem dX4_rowByteAt_1 : decode cX4_rowByteAt 1 = .ok (.invokestatic 167, 3) := by decide +kernel
theorem dX4_rowByteAt_4 : decode cX4_rowByteAt 4 = .ok (.istore_n 3, 1) := by decide +kernel
theorem dX4_rowByteAt_5 : decode cX4_rowByteAt 5 = .ok (.iload_n 1, 1) := by decide +kernel
theorem dX4_rowByteAt_6 : decode cX4_rowByteAt 6 = .ok (.invokestatic 170, 3) := by decide +kernel
theorem dX4_rowByteAt_9 : decode cX4_rowByteAt 9 = .ok (.istore 4, 2) := by decide +kernel
theorem dX4_rowByteAt_11 : decode cX4_rowByteAt 11 = .ok (.aload_n 0, 1) := by decide +kernel
theorem dX4_rowByteAt_12 : decode cX4_rowByteAt 12 = .ok (.getfield 20, 3) := by decide +kernel
theorem dX4_rowByteAt_15 : decode cX4_rowByteAt 15 = .ok (.iload_n 3, 1) := by decide +kernel
theorem dX4_rowByteAt_16 : decode cX4_rowByteAt 16 = .ok (.iload 4, 2) := by decide +kernel
theorem dX4_rowByteAt_18 : decode cX4_rowByteAt 18 = .ok (.iconst 0, 1) := by decide +kernel
theorem dX4_rowByteAt_19 : decode cX4_rowByteAt 19 = .ok (.invokevirtual 176, 3) := by decide +kernel
theorem dX4_rowByteAt_22 : decode cX4_rowByteAt 22 = .ok (.iconst 3, 1) := by decide +kernel
theorem dX4_rowByteAt_23 : decode cX4_rowByteAt 23 = .ok (.if_icmp .ne 7, 3) := by decide +kernel
theorem dX4_rowByteAt_26 : decode cX4_rowByteAt 26 = .ok (.iconst 3, 1) := by decide +kernel
theorem dX4_rowByteAt_27 : decode cX4_rowByteAt 27 = .ok (.goto 4, 3) := by decide +kernel
theorem dX4_rowByteAt_30 : decode cX4_rowByteAt 30 = .ok (.iconst 1, 1) := by decide +kernel
theorem dX4_rowByteAt_31 : decode cX4_rowByteAt 31 = .ok (.istore 5, 2) := by decide +kernel
theorem dX4_rowByteAt_33 : decode cX4_rowByteAt 33 = .ok (.aload_n 0, 1) := by decide +kernel
theorem dX4_rowByteAt_34 : decode cX4_rowByteAt 34 = .ok (.getfield 20, 3) := by decide +kernel
theorem dX4_rowByteAt_37 : decode cX4_rowByteAt 37 = .ok (.iload_n 3, 1) := by decide +kernel
theorem dX4_rowByteAt_38 : decode cX4_rowByteAt 38 = .ok (.iload 4, 2) := by decide +kernel
theorem dX4_rowByteAt_40 : decode cX4_rowByteAt 40 = .ok (.iload 5, 2) := by decide +kernel
theorem dX4_rowByteAt_42 : decode cX4_rowByteAt 42 = .ok (.iload_n 2, 1) := by decide +kernel
theorem dX4_rowByteAt_43 : decode cX4_rowByteAt 43 = .ok (.iadd, 1) := by decide +kernel
theorem dX4_rowByteAt_44 : decode cX4_rowByteAt 44 = .ok (.invokevirtual 176, 3) := by decide +kernel
theorem dX4_rowByteAt_47 : decode cX4_rowByteAt 47 = .ok (.ireturn, 1) := by decide +kernel
theorem dX4_countKind_0 : decode cX4_countKind 0 = .ok (.iconst 0, 1) := by decide +kernel
theorem dX4_countKind_1 : decode cX4_countKind 1 = .ok (.istore_n 2, 1) := by decide +kernel
theorem dX4_countKind_2 : decode cX4_countKind 2 = .ok (.iconst 0, 1) := by decide +kernel
theorem dX4_countKind_3 : decode cX4_countKind 3 = .ok (.istore_n 3, 1) := by decide +kernel
theorem dX4_countKind_4 : decode cX4_countKind 4 = .ok (.iload_n 3, 1) := by decide +kernel
theorem dX4_countKind_5 : decode cX4_countKind 5 = .ok (.aload_n 0, 1) := by decide +kernel
theorem dX4_countKind_6 : decode cX4_countKind 6 = .ok (.getfield 20, 3) := by decide +kernel
theorem dX4_countKind_9 : decode cX4_countKind 9 = .ok (.getfield 143, 3) := by decide +kernel
theorem dX4_countKind_12 : decode cX4_countKind 12 = .ok (.if_icmp .ge 52, 3) := by decide +kernel
theorem dX4_countKind_15 : decode cX4_countKind 15 = .ok (.aload_n 0, 1) := by decide +kernel
theorem dX4_countKind_16 : decode cX4_countKind 16 = .ok (.getfield 20, 3) := by decide +kernel
theorem dX4_countKind_19 : decode cX4_countKind 19 = .ok (.iload_n 3, 1) := by decide +kernel
theorem dX4_countKind_20 : decode cX4_countKind 20 = .ok (.invokevirtual 146, 3) := by decide +kernel
theorem dX4_countKind_23 : decode cX4_countKind 23 = .ok (.istore 4, 2) := by decide +kernel
theorem dX4_countKind_25 : decode cX4_countKind 25 = .ok (.iconst 0, 1) := by decide +kernel
theorem dX4_countKind_26 : decode cX4_countKind 26 = .ok (.istore 5, 2) := by decide +kernel
theorem dX4_countKind_28 : decode cX4_countKind 28 = .ok (.iload 5, 2) := by decide +kernel
theorem dX4_countKind_30 : decode cX4_countKind 30 = .ok (.iload 4, 2) := by decide +kernel
theorem dX4_countKind_32 : decode cX4_countKind 32 = .ok (.if_icmp .ge 26, 3) := by decide +kernel
theorem dX4_countKind_35 : decode cX4_countKind 35 = .ok (.aload_n 0, 1) := by decide +kernel
theorem dX4_countKind_36 : decode cX4_countKind 36 = .ok (.iload_n 3, 1) := by decide +kernel
theorem dX4_countKind_37 : decode cX4_countKind 37 = .ok (.iload 5, 2) := by decide +kernel
theorem dX4_countKind_39 : decode cX4_countKind 39 = .ok (.invokestatic 149, 3) := by decide +kernel
theorem dX4_countKind_42 : decode cX4_countKind 42 = .ok (.invokevirtual 132, 3) := by decide +kernel
theorem dX4_countKind_45 : decode cX4_countKind 45 = .ok (.iload_n 1, 1) := by decide +kernel
theorem dX4_countKind_46 : decode cX4_countKind 46 = .ok (.if_icmp .ne 6, 3) := by decide +kernel
theorem dX4_countKind_49 : decode cX4_countKind 49 = .ok (.iinc 2 1, 3) := by decide +kernel
theorem dX4_countKind_52 : decode cX4_countKind 52 = .ok (.iinc 5 1, 3) := by decide +kernel
theorem dX4_countKind_55 : decode cX4_countKind 55 = .ok (.goto (-27), 3) := by decide +kernel
theorem dX4_countKind_58 : decode cX4_countKind 58 = .ok (.iinc 3 1, 3) := by decide +kernel
theorem dX4_countKind_61 : decode cX4_countKind 61 = .ok (.goto (-57), 3) := by decide +kernel
theorem dX4_countKind_64 : decode cX4_countKind 64 = .ok (.iload_n 2, 1) := by decide +kernel
theorem dX4_countKind_65 : decode cX4_countKind 65 = .ok (.ireturn, 1) := by decide +kernel
theorem dX4_writeHomeRecord_0 : decode cX4_writeHomeRecord 0 = .ok (.aload_n 0, 1) := by decide +kernel
theorem dX4_writeHomeRecord_1 : decode cX4_writeHomeRecord 1 = .ok (.getfield 33, 3) := by decide +kernel
theorem dX4_writeHomeRecord_4 : decode cX4_writeHomeRecord 4 = .ok (.invokevirtual 58, 3) := by decide +kernel
theorem dX4_writeHomeRecord_7 : decode cX4_writeHomeRecord 7 = .ok (.aload_n 0, 1) := by decide +kernel
theorem dX4_writeHomeRecord_8 : decode cX4_writeHomeRecord 8 = .ok (.getfield 30, 3) := by decide +kernel
theorem dX4_writeHomeRecord_11 : decode cX4_writeHomeRecord 11 = .ok (.getfield 54, 3) := by decide +kernel
theorem dX4_writeHomeRecord_14 : decode cX4_writeHomeRecord 14 = .ok (.ifCond .ne 14, 3) := by decide +kernel
theorem dX4_writeHomeRecord_17 : decode cX4_writeHomeRecord 17 = .ok (.aload_n 0, 1) := by decide +kernel
theorem dX4_writeHomeRecord_18 : decode cX4_writeHomeRecord 18 = .ok (.getfield 33, 3) := by decide +kernel
theorem dX4_writeHomeRecord_21 : decode cX4_writeHomeRecord 21 = .ok (.iconst 4, 1) := by decide +kernel
theorem dX4_writeHomeRecord_22 : decode cX4_writeHomeRecord 22 = .ok (.invokevirtual 75, 3) := by decide +kernel
theorem dX4_writeHomeRecord_25 : decode cX4_writeHomeRecord 25 = .ok (.goto 33, 3) := by decide +kernel
theorem dX4_writeHomeRecord_28 : decode cX4_writeHomeRecord 28 = .ok (.aload_n 0, 1) := by decide +kernel
theorem dX4_writeHomeRecord_29 : decode cX4_writeHomeRecord 29 = .ok (.getfield 30, 3) := by decide +kernel
theorem dX4_writeHomeRecord_32 : decode cX4_writeHomeRecord 32 = .ok (.getfield 54, 3) := by decide +kernel
theorem dX4_writeHomeRecord_35 : decode cX4_writeHomeRecord 35 = .ok (.iconst 1, 1) := by decide +kernel
theorem dX4_writeHomeRecord_36 : decode cX4_writeHomeRecord 36 = .ok (.if_icmp .ne 14, 3) := by decide +kernel
theorem dX4_writeHomeRecord_39 : decode cX4_writeHomeRecord 39 = .ok (.aload_n 0, 1) := by decide +kernel
theorem dX4_writeHomeRecord_40 : decode cX4_writeHomeRecord 40 = .ok (.getfield 33, 3) := by decide +kernel
theorem dX4_writeHomeRecord_43 : decode cX4_writeHomeRecord 43 = .ok (.iconst 5, 1) := by decide +kernel
theorem dX4_writeHomeRecord_44 : decode cX4_writeHomeRecord 44 = .ok (.invokevirtual 75, 3) := by decide +kernel
theorem dX4_writeHomeRecord_47 : decode cX4_writeHomeRecord 47 = .ok (.goto 11, 3) := by decide +kernel
theorem dX4_writeHomeRecord_50 : decode cX4_writeHomeRecord 50 = .ok (.aload_n 0, 1) := by decide +kernel
theorem dX4_writeHomeRecord_51 : decode cX4_writeHomeRecord 51 = .ok (.getfield 33, 3) := by decide +kernel
theorem dX4_writeHomeRecord_54 : decode cX4_writeHomeRecord 54 = .ok (.iconst 1, 1) := by decide +kernel
theorem dX4_writeHomeRecord_55 : decode cX4_writeHomeRecord 55 = .ok (.invokevirtual 75, 3) := by decide +kernel
theorem dX4_writeHomeRecord_58 : decode cX4_writeHomeRecord 58 = .ok (.aload_n 0, 1) := by decide +kernel
theorem dX4_writeHomeRecord_59 : decode cX4_writeHomeRecord 59 = .ok (.getfield 33, 3) := by decide +kernel
theorem dX4_writeHomeRecord_62 : decode cX4_writeHomeRecord 62 = .ok (.aload_n 0, 1) := by decide +kernel
theorem dX4_writeHomeRecord_63 : decode cX4_writeHomeRecord 63 = .ok (.getfield 30, 3) := by decide +kernel
theorem dX4_writeHomeRecord_66 : decode cX4_writeHomeRecord 66 = .ok (.invokevirtual 274, 3) := by decide +kernel
theorem dX4_writeHomeRecord_69 : decode cX4_writeHomeRecord 69 = .ok (.aload_n 0, 1) := by decide +kernel
theorem dX4_writeHomeRecord_70 : decode cX4_writeHomeRecord 70 = .ok (.getfield 33, 3) := by decide +kernel
theorem dX4_writeHomeRecord_73 : decode cX4_writeHomeRecord 73 = .ok (.getfield 54, 3) := by decide +kernel
theorem dX4_writeHomeRecord_76 : decode cX4_writeHomeRecord 76 = .ok (.istore_n 1, 1) := by decide +kernel
theorem dX4_writeHomeRecord_77 : decode cX4_writeHomeRecord 77 = .ok (.iload_n 1, 1) := by decide +kernel
theorem dX4_writeHomeRecord_78 : decode cX4_writeHomeRecord 78 = .ok (.iconst 3, 1) := by decide +kernel
theorem dX4_writeHomeRecord_79 : decode cX4_writeHomeRecord 79 = .ok (.if_icmp .ge 17, 3) := by decide +kernel
theorem dX4_writeHomeRecord_82 : decode cX4_writeHomeRecord 82 = .ok (.aload_n 0, 1) := by decide +kernel
theorem dX4_writeHomeRecord_83 : decode cX4_writeHomeRecord 83 = .ok (.getfield 33, 3) := by decide +kernel
theorem dX4_writeHomeRecord_86 : decode cX4_writeHomeRecord 86 = .ok (.iconst 0, 1) := by decide +kernel
theorem dX4_writeHomeRecord_87 : decode cX4_writeHomeRecord 87 = .ok (.invokevirtual 75, 3) := by decide +kernel
theorem dX4_writeHomeRecord_90 : decode cX4_writeHomeRecord 90 = .ok (.iinc 1 1, 3) := by decide +kernel
theorem dX4_writeHomeRecord_93 : decode cX4_writeHomeRecord 93 = .ok (.goto (-16), 3) := by decide +kernel
theorem dX4_writeHomeRecord_96 : decode cX4_writeHomeRecord 96 = .ok (.return_, 1) := by decide +kernel
theorem dX4_writeHead_0 : decode cX4_writeHead 0 = .ok (.aload_n 0, 1) := by decide +kernel
theorem dX4_writeHead_1 : decode cX4_writeHead 1 = .ok (.getfield 33, 3) := by decide +kernel
theorem dX4_writeHead_4 : decode cX4_writeHead 4 = .ok (.invokevirtual 58, 3) := by decide +kernel
theorem dX4_writeHead_7 : decode cX4_writeHead 7 = .ok (.aload_n 0, 1) := by decide +kernel
theorem dX4_writeHead_8 : decode cX4_writeHead 8 = .ok (.getfield 33, 3) := by decide +kernel
theorem dX4_writeHead_11 : decode cX4_writeHead 11 = .ok (.iload_n 1, 1) := by decide +kernel
theorem dX4_writeHead_12 : decode cX4_writeHead 12 = .ok (.invokevirtual 75, 3) := by decide +kernel
theorem dX4_writeHead_15 : decode cX4_writeHead 15 = .ok (.aload_n 0, 1) := by decide +kernel
theorem dX4_writeHead_16 : decode cX4_writeHead 16 = .ok (.getfield 33, 3) := by decide +kernel
theorem dX4_writeHead_19 : decode cX4_writeHead 19 = .ok (.iload_n 2, 1) := by decide +kernel
theorem dX4_writeHead_20 : decode cX4_writeHead 20 = .ok (.invokestatic 167, 3) := by decide +kernel
theorem dX4_writeHead_23 : decode cX4_writeHead 23 = .ok (.invokevirtual 75, 3) := by decide +kernel
theorem dX4_writeHead_26 : decode cX4_writeHead 26 = .ok (.aload_n 0, 1) := by decide +kernel
theorem dX4_writeHead_27 : decode cX4_writeHead 27 = .ok (.getfield 33, 3) := by decide +kernel
theorem dX4_writeHead_30 : decode cX4_writeHead 30 = .ok (.iload_n 2, 1) := by decide +kernel
theorem dX4_writeHead_31 : decode cX4_writeHead 31 = .ok (.invokestatic 170, 3) := by decide +kernel
theorem dX4_writeHead_34 : decode cX4_writeHead 34 = .ok (.invokevirtual 75, 3) := by decide +kernel
theorem dX4_writeHead_37 : decode cX4_writeHead 37 = .ok (.return_, 1) := by decide +kernel
theorem dX4_writeMovedRecord_0 : decode cX4_writeMovedRecord 0 = .ok (.aload_n 0, 1) := by decide +kernel
theorem dX4_writeMovedRecord_1 : decode cX4_writeMovedRecord 1 = .ok (.iconst 3, 1) := by decide +kernel
theorem dX4_writeMovedRecord_2 : decode cX4_writeMovedRecord 2 = .ok (.iload_n 1, 1) := by decide +kernel
theorem dX4_writeMovedRecord_3 : decode cX4_writeMovedRecord 3 = .ok (.invokevirtual 278, 3) := by decide +kernel
theorem dX4_writeMovedRecord_6 : decode cX4_writeMovedRecord 6 = .ok (.aload_n 0, 1) := by decide +kernel
theorem dX4_writeMovedRecord_7 : decode cX4_writeMovedRecord 7 = .ok (.getfield 33, 3) := by decide +kernel
theorem dX4_writeMovedRecord_10 : decode cX4_writeMovedRecord 10 = .ok (.aload_n 0, 1) := by decide +kernel
theorem dX4_writeMovedRecord_11 : decode cX4_writeMovedRecord 11 = .ok (.getfield 30, 3) := by decide +kernel
theorem dX4_writeMovedRecord_14 : decode cX4_writeMovedRecord 14 = .ok (.invokevirtual 274, 3) := by decide +kernel
theorem dX4_writeMovedRecord_17 : decode cX4_writeMovedRecord 17 = .ok (.return_, 1) := by decide +kernel
theorem dX4_insertContent_0 : decode cX4_insertContent 0 = .ok (.aload_n 0, 1) := by decide +kernel
theorem dX4_insertContent_1 : decode cX4_insertContent 1 = .ok (.getfield 12, 3) := by decide +kernel
theorem dX4_insertContent_4 : decode cX4_insertContent 4 = .ok (.iload_n 1, 1) := by decide +kernel
theorem dX4_insertContent_5 : decode cX4_insertContent 5 = .ok (.invokevirtual 281, 3) := by decide +kernel
theorem dX4_insertContent_8 : decode cX4_insertContent 8 = .ok (.iload_n 1, 1) := by decide +kernel
theorem dX4_insertContent_9 : decode cX4_insertContent 9 = .ok (.aload_n 0, 1) := by decide +kernel
theorem dX4_insertContent_10 : decode cX4_insertContent 10 = .ok (.getfield 12, 3) := by decide +kernel
theorem dX4_insertContent_13 : decode cX4_insertContent 13 = .ok (.iload_n 1, 1) := by decide +kernel
theorem dX4_insertContent_14 : decode cX4_insertContent 14 = .ok (.invokevirtual 194, 3) := by decide +kernel
theorem dX4_insertContent_17 : decode cX4_insertContent 17 = .ok (.invokestatic 149, 3) := by decide +kernel
theorem dX4_insertContent_20 : decode cX4_insertContent 20 = .ok (.istore_n 2, 1) := by decide +kernel
theorem dX4_insertContent_21 : decode cX4_insertContent 21 = .ok (.aload_n 0, 1) := by decide +kernel
theorem dX4_insertContent_22 : decode cX4_insertContent 22 = .ok (.invokevirtual 284, 3) := by decide +kernel
theorem dX4_insertContent_25 : decode cX4_insertContent 25 = .ok (.aload_n 0, 1) := by decide +kernel
theorem dX4_insertContent_26 : decode cX4_insertContent 26 = .ok (.getfield 12, 3) := by decide +kernel
theorem dX4_insertContent_29 : decode cX4_insertContent 29 = .ok (.iload_n 2, 1) := by decide +kernel
theorem dX4_insertContent_30 : decode cX4_insertContent 30 = .ok (.aload_n 0, 1) := by decide +kernel
theorem dX4_insertContent_31 : decode cX4_insertContent 31 = .ok (.getfield 33, 3) := by decide +kernel
theorem dX4_insertContent_34 : decode cX4_insertContent 34 = .ok (.invokevirtual 287, 3) := by decide +kernel
theorem dX4_insertContent_37 : decode cX4_insertContent 37 = .ok (.iload_n 2, 1) := by decide +kernel
theorem dX4_insertContent_38 : decode cX4_insertContent 38 = .ok (.ireturn, 1) := by decide +kernel
theorem dX4_roomToReplace_0 : decode cX4_roomToReplace 0 = .ok (.aload_n 0, 1) := by decide +kernel
theorem dX4_roomToReplace_1 : decode cX4_roomToReplace 1 = .ok (.getfield 12, 3) := by decide +kernel
theorem dX4_roomToReplace_4 : decode cX4_roomToReplace 4 = .ok (.iload_n 1, 1) := by decide +kernel
theorem dX4_roomToReplace_5 : decode cX4_roomToReplace 5 = .ok (.invokestatic 167, 3) := by decide +kernel
theorem dX4_roomToReplace_8 : decode cX4_roomToReplace 8 = .ok (.invokevirtual 161, 3) := by decide +kernel
theorem dX4_roomToReplace_11 : decode cX4_roomToReplace 11 = .ok (.aload_n 0, 1) := by decide +kernel
theorem dX4_roomToReplace_12 : decode cX4_roomToReplace 12 = .ok (.iload_n 1, 1) := by decide +kernel
theorem dX4_roomToReplace_13 : decode cX4_roomToReplace 13 = .ok (.invokevirtual 271, 3) := by decide +kernel
theorem dX4_roomToReplace_16 : decode cX4_roomToReplace 16 = .ok (.iadd, 1) := by decide +kernel
theorem dX4_roomToReplace_17 : decode cX4_roomToReplace 17 = .ok (.ireturn, 1) := by decide +kernel
theorem dX4_wayToChange_0 : decode cX4_wayToChange 0 = .ok (.iload_n 2, 1) := by decide +kernel
theorem dX4_wayToChange_1 : decode cX4_wayToChange 1 = .ok (.invokestatic 78, 3) := by decide +kernel
theorem dX4_wayToChange_4 : decode cX4_wayToChange 4 = .ok (.aload_n 0, 1) := by decide +kernel
theorem dX4_wayToChange_5 : decode cX4_wayToChange 5 = .ok (.iload_n 1, 1) := by decide +kernel
theorem dX4_wayToChange_6 : decode cX4_wayToChange 6 = .ok (.invokevirtual 197, 3) := by decide +kernel
theorem dX4_wayToChange_9 : decode cX4_wayToChange 9 = .ok (.if_icmp .gt 5, 3) := by decide +kernel
theorem dX4_wayToChange_12 : decode cX4_wayToChange 12 = .ok (.iconst 1, 1) := by decide +kernel
theorem dX4_wayToChange_13 : decode cX4_wayToChange 13 = .ok (.ireturn, 1) := by decide +kernel
theorem dX4_wayToChange_14 : decode cX4_wayToChange 14 = .ok (.aload_n 0, 1) := by decide +kernel
theorem dX4_wayToChange_15 : decode cX4_wayToChange 15 = .ok (.iload_n 1, 1) := by decide +kernel
theorem dX4_wayToChange_16 : decode cX4_wayToChange 16 = .ok (.invokevirtual 110, 3) := by decide +kernel
theorem dX4_wayToChange_19 : decode cX4_wayToChange 19 = .ok (.istore_n 3, 1) := by decide +kernel
theorem dX4_wayToChange_20 : decode cX4_wayToChange 20 = .ok (.iload_n 2, 1) := by decide +kernel
theorem dX4_wayToChange_21 : decode cX4_wayToChange 21 = .ok (.invokestatic 291, 3) := by decide +kernel
theorem dX4_wayToChange_24 : decode cX4_wayToChange 24 = .ok (.istore 4, 2) := by decide +kernel
theorem dX4_wayToChange_26 : decode cX4_wayToChange 26 = .ok (.iload_n 3, 1) := by decide +kernel
theorem dX4_wayToChange_27 : decode cX4_wayToChange 27 = .ok (.iload_n 1, 1) := by decide +kernel
theorem dX4_wayToChange_28 : decode cX4_wayToChange 28 = .ok (.if_icmp .eq 15, 3) := by decide +kernel
theorem dX4_wayToChange_31 : decode cX4_wayToChange 31 = .ok (.iload 4, 2) := by decide +kernel
theorem dX4_wayToChange_33 : decode cX4_wayToChange 33 = .ok (.aload_n 0, 1) := by decide +kernel
theorem dX4_wayToChange_34 : decode cX4_wayToChange 34 = .ok (.iload_n 3, 1) := by decide +kernel
theorem dX4_wayToChange_35 : decode cX4_wayToChange 35 = .ok (.invokevirtual 197, 3) := by decide +kernel
theorem dX4_wayToChange_38 : decode cX4_wayToChange 38 = .ok (.if_icmp .gt 5, 3) := by decide +kernel
theorem dX4_wayToChange_41 : decode cX4_wayToChange 41 = .ok (.iconst 2, 1) := by decide +kernel
theorem dX4_wayToChange_42 : decode cX4_wayToChange 42 = .ok (.ireturn, 1) := by decide +kernel
theorem dX4_wayToChange_43 : decode cX4_wayToChange 43 = .ok (.aload_n 0, 1) := by decide +kernel
theorem dX4_wayToChange_44 : decode cX4_wayToChange 44 = .ok (.getfield 12, 3) := by decide +kernel
theorem dX4_wayToChange_47 : decode cX4_wayToChange 47 = .ok (.iload 4, 2) := by decide +kernel
theorem dX4_wayToChange_49 : decode cX4_wayToChange 49 = .ok (.iload_n 1, 1) := by decide +kernel
theorem dX4_wayToChange_50 : decode cX4_wayToChange 50 = .ok (.invokestatic 167, 3) := by decide +kernel
theorem dX4_wayToChange_53 : decode cX4_wayToChange 53 = .ok (.iload_n 3, 1) := by decide +kernel
theorem dX4_wayToChange_54 : decode cX4_wayToChange 54 = .ok (.invokestatic 167, 3) := by decide +kernel
theorem dX4_wayToChange_57 : decode cX4_wayToChange 57 = .ok (.invokevirtual 82, 3) := by decide +kernel
theorem dX4_wayToChange_60 : decode cX4_wayToChange 60 = .ok (.iconst (-1), 1) := by decide +kernel
theorem dX4_wayToChange_61 : decode cX4_wayToChange 61 = .ok (.if_icmp .ne 7, 3) := by decide +kernel
theorem dX4_wayToChange_64 : decode cX4_wayToChange 64 = .ok (.iconst (-1), 1) := by decide +kernel
theorem dX4_wayToChange_65 : decode cX4_wayToChange 65 = .ok (.goto 4, 3) := by decide +kernel
theorem dX4_wayToChange_68 : decode cX4_wayToChange 68 = .ok (.iconst 3, 1) := by decide +kernel
theorem dX4_wayToChange_69 : decode cX4_wayToChange 69 = .ok (.ireturn, 1) := by decide +kernel
theorem dX4_changeRow_0 : decode cX4_changeRow 0 = .ok (.aload_n 0, 1) := by decide +kernel
theorem dX4_changeRow_1 : decode cX4_changeRow 1 = .ok (.iload_n 1, 1) := by decide +kernel
theorem dX4_changeRow_2 : decode cX4_changeRow 2 = .ok (.invokevirtual 110, 3) := by decide +kernel
theorem dX4_changeRow_5 : decode cX4_changeRow 5 = .ok (.istore_n 3, 1) := by decide +kernel
theorem dX4_changeRow_6 : decode cX4_changeRow 6 = .ok (.iload_n 2, 1) := by decide +kernel
theorem dX4_changeRow_7 : decode cX4_changeRow 7 = .ok (.iconst 1, 1) := by decide +kernel
theorem dX4_changeRow_8 : decode cX4_changeRow 8 = .ok (.if_icmp .ne 10, 3) := by decide +kernel
theorem dX4_changeRow_11 : decode cX4_changeRow 11 = .ok (.aload_n 0, 1) := by decide +kernel
theorem dX4_changeRow_12 : decode cX4_changeRow 12 = .ok (.iload_n 1, 1) := by decide +kernel
theorem dX4_changeRow_13 : decode cX4_changeRow 13 = .ok (.iload_n 3, 1) := by decide +kernel
theorem dX4_changeRow_14 : decode cX4_changeRow 14 = .ok (.invokevirtual 294, 3) := by decide +kernel
theorem dX4_changeRow_17 : decode cX4_changeRow 17 = .ok (.return_, 1) := by decide +kernel
theorem dX4_changeRow_18 : decode cX4_changeRow 18 = .ok (.aload_n 0, 1) := by decide +kernel
theorem dX4_changeRow_19 : decode cX4_changeRow 19 = .ok (.iload_n 1, 1) := by decide +kernel
theorem dX4_changeRow_20 : decode cX4_changeRow 20 = .ok (.invokevirtual 297, 3) := by decide +kernel
theorem dX4_changeRow_23 : decode cX4_changeRow 23 = .ok (.iload_n 2, 1) := by decide +kernel
theorem dX4_changeRow_24 : decode cX4_changeRow 24 = .ok (.iconst 2, 1) := by decide +kernel
theorem dX4_changeRow_25 : decode cX4_changeRow 25 = .ok (.if_icmp .ne 16, 3) := by decide +kernel
theorem dX4_changeRow_28 : decode cX4_changeRow 28 = .ok (.aload_n 0, 1) := by decide +kernel
theorem dX4_changeRow_29 : decode cX4_changeRow 29 = .ok (.getfield 12, 3) := by decide +kernel
theorem dX4_changeRow_32 : decode cX4_changeRow 32 = .ok (.iload_n 3, 1) := by decide +kernel
theorem dX4_changeRow_33 : decode cX4_changeRow 33 = .ok (.aload_n 0, 1) := by decide +kernel
theorem dX4_changeRow_34 : decode cX4_changeRow 34 = .ok (.getfield 33, 3) := by decide +kernel
theorem dX4_changeRow_37 : decode cX4_changeRow 37 = .ok (.invokevirtual 287, 3) := by decide +kernel
theorem dX4_changeRow_40 : decode cX4_changeRow 40 = .ok (.return_, 1) := by decide +kernel
theorem dX4_changeRow_41 : decode cX4_changeRow 41 = .ok (.aload_n 0, 1) := by decide +kernel
theorem dX4_changeRow_42 : decode cX4_changeRow 42 = .ok (.getfield 12, 3) := by decide +kernel
theorem dX4_changeRow_45 : decode cX4_changeRow 45 = .ok (.aload_n 0, 1) := by decide +kernel
theorem dX4_changeRow_46 : decode cX4_changeRow 46 = .ok (.getfield 33, 3) := by decide +kernel
theorem dX4_changeRow_49 : decode cX4_changeRow 49 = .ok (.getfield 54, 3) := by decide +kernel
theorem dX4_changeRow_52 : decode cX4_changeRow 52 = .ok (.iload_n 1, 1) := by decide +kernel
theorem dX4_changeRow_53 : decode cX4_changeRow 53 = .ok (.invokestatic 167, 3) := by decide +kernel
theorem dX4_changeRow_56 : decode cX4_changeRow 56 = .ok (.iload_n 3, 1) := by decide +kernel
theorem dX4_changeRow_57 : decode cX4_changeRow 57 = .ok (.invokestatic 167, 3) := by decide +kernel
theorem dX4_changeRow_60 : decode cX4_changeRow 60 = .ok (.invokevirtual 82, 3) := by decide +kernel
theorem dX4_changeRow_63 : decode cX4_changeRow 63 = .ok (.istore 4, 2) := by decide +kernel
theorem dX4_changeRow_65 : decode cX4_changeRow 65 = .ok (.aload_n 0, 1) := by decide +kernel
theorem dX4_changeRow_66 : decode cX4_changeRow 66 = .ok (.getfield 12, 3) := by decide +kernel
theorem dX4_changeRow_69 : decode cX4_changeRow 69 = .ok (.iload 4, 2) := by decide +kernel
theorem dX4_changeRow_71 : decode cX4_changeRow 71 = .ok (.invokevirtual 281, 3) := by decide +kernel
theorem dX4_changeRow_74 : decode cX4_changeRow 74 = .ok (.iload 4, 2) := by decide +kernel
theorem dX4_changeRow_76 : decode cX4_changeRow 76 = .ok (.aload_n 0, 1) := by decide +kernel
theorem dX4_changeRow_77 : decode cX4_changeRow 77 = .ok (.getfield 12, 3) := by decide +kernel
theorem dX4_changeRow_80 : decode cX4_changeRow 80 = .ok (.iload 4, 2) := by decide +kernel
theorem dX4_changeRow_82 : decode cX4_changeRow 82 = .ok (.invokevirtual 194, 3) := by decide +kernel
theorem dX4_changeRow_85 : decode cX4_changeRow 85 = .ok (.invokestatic 149, 3) := by decide +kernel
theorem dX4_changeRow_88 : decode cX4_changeRow 88 = .ok (.istore 5, 2) := by decide +kernel
theorem dX4_changeRow_90 : decode cX4_changeRow 90 = .ok (.aload_n 0, 1) := by decide +kernel
theorem dX4_changeRow_91 : decode cX4_changeRow 91 = .ok (.getfield 12, 3) := by decide +kernel
theorem dX4_changeRow_94 : decode cX4_changeRow 94 = .ok (.iload 5, 2) := by decide +kernel
theorem dX4_changeRow_96 : decode cX4_changeRow 96 = .ok (.aload_n 0, 1) := by decide +kernel
theorem dX4_changeRow_97 : decode cX4_changeRow 97 = .ok (.getfield 33, 3) := by decide +kernel
theorem dX4_changeRow_100 : decode cX4_changeRow 100 = .ok (.invokevirtual 287, 3) := by decide +kernel
theorem dX4_changeRow_103 : decode cX4_changeRow 103 = .ok (.aload_n 0, 1) := by decide +kernel
theorem dX4_changeRow_104 : decode cX4_changeRow 104 = .ok (.iload_n 1, 1) := by decide +kernel
theorem dX4_changeRow_105 : decode cX4_changeRow 105 = .ok (.iload_n 3, 1) := by decide +kernel
theorem dX4_changeRow_106 : decode cX4_changeRow 106 = .ok (.iload 5, 2) := by decide +kernel
theorem dX4_changeRow_108 : decode cX4_changeRow 108 = .ok (.invokevirtual 300, 3) := by decide +kernel
theorem dX4_changeRow_111 : decode cX4_changeRow 111 = .ok (.aload_n 0, 1) := by decide +kernel
theorem dX4_changeRow_112 : decode cX4_changeRow 112 = .ok (.getfield 20, 3) := by decide +kernel
theorem dX4_changeRow_115 : decode cX4_changeRow 115 = .ok (.dup, 1) := by decide +kernel
theorem dX4_changeRow_116 : decode cX4_changeRow 116 = .ok (.getfield 179, 3) := by decide +kernel
theorem dX4_changeRow_119 : decode cX4_changeRow 119 = .ok (.iconst 1, 1) := by decide +kernel
theorem dX4_changeRow_120 : decode cX4_changeRow 120 = .ok (.iadd, 1) := by decide +kernel
theorem dX4_changeRow_121 : decode cX4_changeRow 121 = .ok (.putfield 179, 3) := by decide +kernel
theorem dX4_changeRow_124 : decode cX4_changeRow 124 = .ok (.return_, 1) := by decide +kernel
theorem dX4_storeAtHome_0 : decode cX4_storeAtHome 0 = .ok (.iload_n 2, 1) := by decide +kernel
theorem dX4_storeAtHome_1 : decode cX4_storeAtHome 1 = .ok (.iload_n 1, 1) := by decide +kernel
theorem dX4_storeAtHome_2 : decode cX4_storeAtHome 2 = .ok (.if_icmp .eq 24, 3) := by decide +kernel
theorem dX4_storeAtHome_5 : decode cX4_storeAtHome 5 = .ok (.aload_n 0, 1) := by decide +kernel
theorem dX4_storeAtHome_6 : decode cX4_storeAtHome 6 = .ok (.getfield 12, 3) := by decide +kernel
theorem dX4_storeAtHome_9 : decode cX4_storeAtHome 9 = .ok (.iload_n 2, 1) := by decide +kernel
theorem dX4_storeAtHome_10 : decode cX4_storeAtHome 10 = .ok (.invokevirtual 304, 3) := by decide +kernel
theorem dX4_storeAtHome_13 : decode cX4_storeAtHome 13 = .ok (.aload_n 0, 1) := by decide +kernel
theorem dX4_storeAtHome_14 : decode cX4_storeAtHome 14 = .ok (.getfield 20, 3) := by decide +kernel
theorem dX4_storeAtHome_17 : decode cX4_storeAtHome 17 = .ok (.dup, 1) := by decide +kernel
theorem dX4_storeAtHome_18 : decode cX4_storeAtHome 18 = .ok (.getfield 182, 3) := by decide +kernel
theorem dX4_storeAtHome_21 : decode cX4_storeAtHome 21 = .ok (.iconst 1, 1) := by decide +kernel
theorem dX4_storeAtHome_22 : decode cX4_storeAtHome 22 = .ok (.iadd, 1) := by decide +kernel
theorem dX4_storeAtHome_23 : decode cX4_storeAtHome 23 = .ok (.putfield 182, 3) := by decide +kernel
theorem dX4_storeAtHome_26 : decode cX4_storeAtHome 26 = .ok (.aload_n 0, 1) := by decide +kernel
