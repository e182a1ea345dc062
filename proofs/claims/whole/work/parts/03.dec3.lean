theorem dX5_lengthOf_42 : decode cX5_lengthOf 42 = .ok (.invokevirtual 58, 3) := by decide +kernel
theorem dX5_lengthOf_45 : decode cX5_lengthOf 45 = .ok (.istore 4, 2) := by decide +kernel
theorem dX5_lengthOf_47 : decode cX5_lengthOf 47 = .ok (.iload 4, 2) := by decide +kernel
theorem dX5_lengthOf_49 : decode cX5_lengthOf 49 = .ok (.iconst 4, 1) := by decide +kernel
theorem dX5_lengthOf_50 : decode cX5_lengthOf 50 = .ok (.if_icmp .ne 7, 3) := by decide +kernel
theorem dX5_lengthOf_53 : decode cX5_lengthOf 53 = .ok (.iconst 0, 1) := by decide +kernel
theorem dX5_lengthOf_54 : decode cX5_lengthOf 54 = .ok (.goto 16, 3) := by decide +kernel
theorem dX5_lengthOf_57 : decode cX5_lengthOf 57 = .ok (.iload 4, 2) := by decide +kernel
theorem dX5_lengthOf_59 : decode cX5_lengthOf 59 = .ok (.iconst 5, 1) := by decide +kernel
theorem dX5_lengthOf_60 : decode cX5_lengthOf 60 = .ok (.if_icmp .ne 7, 3) := by decide +kernel
theorem dX5_lengthOf_63 : decode cX5_lengthOf 63 = .ok (.iconst 1, 1) := by decide +kernel
theorem dX5_lengthOf_64 : decode cX5_lengthOf 64 = .ok (.goto 6, 3) := by decide +kernel
theorem dX5_lengthOf_67 : decode cX5_lengthOf 67 = .ok (.iload_n 3, 1) := by decide +kernel
theorem dX5_lengthOf_68 : decode cX5_lengthOf 68 = .ok (.iconst 1, 1) := by decide +kernel
theorem dX5_lengthOf_69 : decode cX5_lengthOf 69 = .ok (.isub, 1) := by decide +kernel
theorem dX5_lengthOf_70 : decode cX5_lengthOf 70 = .ok (.ireturn, 1) := by decide +kernel
theorem dX5_byteOfRow_0 : decode cX5_byteOfRow 0 = .ok (.aload_n 0, 1) := by decide +kernel
theorem dX5_byteOfRow_1 : decode cX5_byteOfRow 1 = .ok (.iload_n 1, 1) := by decide +kernel
theorem dX5_byteOfRow_2 : decode cX5_byteOfRow 2 = .ok (.invokevirtual 82, 3) := by decide +kernel
theorem dX5_byteOfRow_5 : decode cX5_byteOfRow 5 = .ok (.istore_n 3, 1) := by decide +kernel
theorem dX5_byteOfRow_6 : decode cX5_byteOfRow 6 = .ok (.aload_n 0, 1) := by decide +kernel
theorem dX5_byteOfRow_7 : decode cX5_byteOfRow 7 = .ok (.iload_n 3, 1) := by decide +kernel
theorem dX5_byteOfRow_8 : decode cX5_byteOfRow 8 = .ok (.bipush 100, 2) := by decide +kernel
theorem dX5_byteOfRow_10 : decode cX5_byteOfRow 10 = .ok (.idiv, 1) := by decide +kernel
theorem dX5_byteOfRow_11 : decode cX5_byteOfRow 11 = .ok (.iload_n 3, 1) := by decide +kernel
theorem dX5_byteOfRow_12 : decode cX5_byteOfRow 12 = .ok (.bipush 100, 2) := by decide +kernel
theorem dX5_byteOfRow_14 : decode cX5_byteOfRow 14 = .ok (.irem, 1) := by decide +kernel
theorem dX5_byteOfRow_15 : decode cX5_byteOfRow 15 = .ok (.aload_n 0, 1) := by decide +kernel
theorem dX5_byteOfRow_16 : decode cX5_byteOfRow 16 = .ok (.iload_n 1, 1) := by decide +kernel
theorem dX5_byteOfRow_17 : decode cX5_byteOfRow 17 = .ok (.invokevirtual 75, 3) := by decide +kernel
theorem dX5_byteOfRow_20 : decode cX5_byteOfRow 20 = .ok (.iconst 2, 1) := by decide +kernel
theorem dX5_byteOfRow_21 : decode cX5_byteOfRow 21 = .ok (.if_icmp .ne 9, 3) := by decide +kernel
theorem dX5_byteOfRow_24 : decode cX5_byteOfRow 24 = .ok (.iconst 3, 1) := by decide +kernel
theorem dX5_byteOfRow_25 : decode cX5_byteOfRow 25 = .ok (.iload_n 2, 1) := by decide +kernel
theorem dX5_byteOfRow_26 : decode cX5_byteOfRow 26 = .ok (.iadd, 1) := by decide +kernel
theorem dX5_byteOfRow_27 : decode cX5_byteOfRow 27 = .ok (.goto 6, 3) := by decide +kernel
theorem dX5_byteOfRow_30 : decode cX5_byteOfRow 30 = .ok (.iconst 1, 1) := by decide +kernel
theorem dX5_byteOfRow_31 : decode cX5_byteOfRow 31 = .ok (.iload_n 2, 1) := by decide +kernel
theorem dX5_byteOfRow_32 : decode cX5_byteOfRow 32 = .ok (.iadd, 1) := by decide +kernel
theorem dX5_byteOfRow_33 : decode cX5_byteOfRow 33 = .ok (.invokevirtual 58, 3) := by decide +kernel
theorem dX5_byteOfRow_36 : decode cX5_byteOfRow 36 = .ok (.ireturn, 1) := by decide +kernel
theorem dX5_writesHome_0 : decode cX5_writesHome 0 = .ok (.aload_n 0, 1) := by decide +kernel
theorem dX5_writesHome_1 : decode cX5_writesHome 1 = .ok (.iload_n 1, 1) := by decide +kernel
theorem dX5_writesHome_2 : decode cX5_writesHome 2 = .ok (.iload_n 2, 1) := by decide +kernel
theorem dX5_writesHome_3 : decode cX5_writesHome 3 = .ok (.iconst 0, 1) := by decide +kernel
theorem dX5_writesHome_4 : decode cX5_writesHome 4 = .ok (.aload_n 0, 1) := by decide +kernel
theorem dX5_writesHome_5 : decode cX5_writesHome 5 = .ok (.getfield 85, 3) := by decide +kernel
theorem dX5_writesHome_8 : decode cX5_writesHome 8 = .ok (.ifCond .ne 7, 3) := by decide +kernel
theorem dX5_writesHome_11 : decode cX5_writesHome 11 = .ok (.iconst 4, 1) := by decide +kernel
theorem dX5_writesHome_12 : decode cX5_writesHome 12 = .ok (.goto 16, 3) := by decide +kernel
theorem dX5_writesHome_15 : decode cX5_writesHome 15 = .ok (.aload_n 0, 1) := by decide +kernel
theorem dX5_writesHome_16 : decode cX5_writesHome 16 = .ok (.getfield 85, 3) := by decide +kernel
theorem dX5_writesHome_19 : decode cX5_writesHome 19 = .ok (.iconst 1, 1) := by decide +kernel
theorem dX5_writesHome_20 : decode cX5_writesHome 20 = .ok (.if_icmp .ne 7, 3) := by decide +kernel
theorem dX5_writesHome_23 : decode cX5_writesHome 23 = .ok (.iconst 5, 1) := by decide +kernel
theorem dX5_writesHome_24 : decode cX5_writesHome 24 = .ok (.goto 4, 3) := by decide +kernel
theorem dX5_writesHome_27 : decode cX5_writesHome 27 = .ok (.iconst 1, 1) := by decide +kernel
theorem dX5_writesHome_28 : decode cX5_writesHome 28 = .ok (.invokevirtual 50, 3) := by decide +kernel
theorem dX5_writesHome_31 : decode cX5_writesHome 31 = .ok (.iconst 0, 1) := by decide +kernel
theorem dX5_writesHome_32 : decode cX5_writesHome 32 = .ok (.istore_n 3, 1) := by decide +kernel
theorem dX5_writesHome_33 : decode cX5_writesHome 33 = .ok (.iload_n 3, 1) := by decide +kernel
theorem dX5_writesHome_34 : decode cX5_writesHome 34 = .ok (.aload_n 0, 1) := by decide +kernel
theorem dX5_writesHome_35 : decode cX5_writesHome 35 = .ok (.getfield 85, 3) := by decide +kernel
theorem dX5_writesHome_38 : decode cX5_writesHome 38 = .ok (.if_icmp .ge 24, 3) := by decide +kernel
theorem dX5_writesHome_41 : decode cX5_writesHome 41 = .ok (.aload_n 0, 1) := by decide +kernel
theorem dX5_writesHome_42 : decode cX5_writesHome 42 = .ok (.iload_n 1, 1) := by decide +kernel
theorem dX5_writesHome_43 : decode cX5_writesHome 43 = .ok (.iload_n 2, 1) := by decide +kernel
theorem dX5_writesHome_44 : decode cX5_writesHome 44 = .ok (.iconst 1, 1) := by decide +kernel
theorem dX5_writesHome_45 : decode cX5_writesHome 45 = .ok (.iload_n 3, 1) := by decide +kernel
theorem dX5_writesHome_46 : decode cX5_writesHome 46 = .ok (.iadd, 1) := by decide +kernel
theorem dX5_writesHome_47 : decode cX5_writesHome 47 = .ok (.aload_n 0, 1) := by decide +kernel
theorem dX5_writesHome_48 : decode cX5_writesHome 48 = .ok (.getfield 16, 3) := by decide +kernel
theorem dX5_writesHome_51 : decode cX5_writesHome 51 = .ok (.iload_n 3, 1) := by decide +kernel
theorem dX5_writesHome_52 : decode cX5_writesHome 52 = .ok (.iaload, 1) := by decide +kernel
theorem dX5_writesHome_53 : decode cX5_writesHome 53 = .ok (.invokevirtual 50, 3) := by decide +kernel
theorem dX5_writesHome_56 : decode cX5_writesHome 56 = .ok (.iinc 3 1, 3) := by decide +kernel
theorem dX5_writesHome_59 : decode cX5_writesHome 59 = .ok (.goto (-26), 3) := by decide +kernel
theorem dX5_writesHome_62 : decode cX5_writesHome 62 = .ok (.return_, 1) := by decide +kernel
theorem dX5_writesNote_0 : decode cX5_writesNote 0 = .ok (.aload_n 0, 1) := by decide +kernel
theorem dX5_writesNote_1 : decode cX5_writesNote 1 = .ok (.iload_n 1, 1) := by decide +kernel
theorem dX5_writesNote_2 : decode cX5_writesNote 2 = .ok (.bipush 100, 2) := by decide +kernel
theorem dX5_writesNote_4 : decode cX5_writesNote 4 = .ok (.idiv, 1) := by decide +kernel
theorem dX5_writesNote_5 : decode cX5_writesNote 5 = .ok (.iload_n 1, 1) := by decide +kernel
theorem dX5_writesNote_6 : decode cX5_writesNote 6 = .ok (.bipush 100, 2) := by decide +kernel
theorem dX5_writesNote_8 : decode cX5_writesNote 8 = .ok (.irem, 1) := by decide +kernel
theorem dX5_writesNote_9 : decode cX5_writesNote 9 = .ok (.iconst 0, 1) := by decide +kernel
theorem dX5_writesNote_10 : decode cX5_writesNote 10 = .ok (.iload_n 2, 1) := by decide +kernel
theorem dX5_writesNote_11 : decode cX5_writesNote 11 = .ok (.invokevirtual 50, 3) := by decide +kernel
theorem dX5_writesNote_14 : decode cX5_writesNote 14 = .ok (.aload_n 0, 1) := by decide +kernel
theorem dX5_writesNote_15 : decode cX5_writesNote 15 = .ok (.iload_n 1, 1) := by decide +kernel
theorem dX5_writesNote_16 : decode cX5_writesNote 16 = .ok (.bipush 100, 2) := by decide +kernel
theorem dX5_writesNote_18 : decode cX5_writesNote 18 = .ok (.idiv, 1) := by decide +kernel
theorem dX5_writesNote_19 : decode cX5_writesNote 19 = .ok (.iload_n 1, 1) := by decide +kernel
theorem dX5_writesNote_20 : decode cX5_writesNote 20 = .ok (.bipush 100, 2) := by decide +kernel
theorem dX5_writesNote_22 : decode cX5_writesNote 22 = .ok (.irem, 1) := by decide +kernel
theorem dX5_writesNote_23 : decode cX5_writesNote 23 = .ok (.iconst 1, 1) := by decide +kernel
theorem dX5_writesNote_24 : decode cX5_writesNote 24 = .ok (.iload_n 3, 1) := by decide +kernel
theorem dX5_writesNote_25 : decode cX5_writesNote 25 = .ok (.bipush 100, 2) := by decide +kernel
theorem dX5_writesNote_27 : decode cX5_writesNote 27 = .ok (.idiv, 1) := by decide +kernel
theorem dX5_writesNote_28 : decode cX5_writesNote 28 = .ok (.invokevirtual 50, 3) := by decide +kernel
theorem dX5_writesNote_31 : decode cX5_writesNote 31 = .ok (.aload_n 0, 1) := by decide +kernel
theorem dX5_writesNote_32 : decode cX5_writesNote 32 = .ok (.iload_n 1, 1) := by decide +kernel
theorem dX5_writesNote_33 : decode cX5_writesNote 33 = .ok (.bipush 100, 2) := by decide +kernel
theorem dX5_writesNote_35 : decode cX5_writesNote 35 = .ok (.idiv, 1) := by decide +kernel
theorem dX5_writesNote_36 : decode cX5_writesNote 36 = .ok (.iload_n 1, 1) := by decide +kernel
theorem dX5_writesNote_37 : decode cX5_writesNote 37 = .ok (.bipush 100, 2) := by decide +kernel
theorem dX5_writesNote_39 : decode cX5_writesNote 39 = .ok (.irem, 1) := by decide +kernel
theorem dX5_writesNote_40 : decode cX5_writesNote 40 = .ok (.iconst 2, 1) := by decide +kernel
theorem dX5_writesNote_41 : decode cX5_writesNote 41 = .ok (.iload_n 3, 1) := by decide +kernel
theorem dX5_writesNote_42 : decode cX5_writesNote 42 = .ok (.bipush 100, 2) := by decide +kernel
theorem dX5_writesNote_44 : decode cX5_writesNote 44 = .ok (.irem, 1) := by decide +kernel
theorem dX5_writesNote_45 : decode cX5_writesNote 45 = .ok (.invokevirtual 50, 3) := by decide +kernel
theorem dX5_writesNote_48 : decode cX5_writesNote 48 = .ok (.return_, 1) := by decide +kernel
theorem dX5_writesMoved_0 : decode cX5_writesMoved 0 = .ok (.aload_n 0, 1) := by decide +kernel
theorem dX5_writesMoved_1 : decode cX5_writesMoved 1 = .ok (.iload_n 1, 1) := by decide +kernel
theorem dX5_writesMoved_2 : decode cX5_writesMoved 2 = .ok (.iconst 3, 1) := by decide +kernel
theorem dX5_writesMoved_3 : decode cX5_writesMoved 3 = .ok (.iload_n 2, 1) := by decide +kernel
theorem dX5_writesMoved_4 : decode cX5_writesMoved 4 = .ok (.invokevirtual 88, 3) := by decide +kernel
theorem dX5_writesMoved_7 : decode cX5_writesMoved 7 = .ok (.iconst 0, 1) := by decide +kernel
theorem dX5_writesMoved_8 : decode cX5_writesMoved 8 = .ok (.istore_n 3, 1) := by decide +kernel
theorem dX5_writesMoved_9 : decode cX5_writesMoved 9 = .ok (.iload_n 3, 1) := by decide +kernel
theorem dX5_writesMoved_10 : decode cX5_writesMoved 10 = .ok (.aload_n 0, 1) := by decide +kernel
theorem dX5_writesMoved_11 : decode cX5_writesMoved 11 = .ok (.getfield 85, 3) := by decide +kernel
theorem dX5_writesMoved_14 : decode cX5_writesMoved 14 = .ok (.if_icmp .ge 30, 3) := by decide +kernel
theorem dX5_writesMoved_17 : decode cX5_writesMoved 17 = .ok (.aload_n 0, 1) := by decide +kernel
theorem dX5_writesMoved_18 : decode cX5_writesMoved 18 = .ok (.iload_n 1, 1) := by decide +kernel
theorem dX5_writesMoved_19 : decode cX5_writesMoved 19 = .ok (.bipush 100, 2) := by decide +kernel
theorem dX5_writesMoved_21 : decode cX5_writesMoved 21 = .ok (.idiv, 1) := by decide +kernel
theorem dX5_writesMoved_22 : decode cX5_writesMoved 22 = .ok (.iload_n 1, 1) := by decide +kernel
theorem dX5_writesMoved_23 : decode cX5_writesMoved 23 = .ok (.bipush 100, 2) := by decide +kernel
theorem dX5_writesMoved_25 : decode cX5_writesMoved 25 = .ok (.irem, 1) := by decide +kernel
theorem dX5_writesMoved_26 : decode cX5_writesMoved 26 = .ok (.iconst 3, 1) := by decide +kernel
theorem dX5_writesMoved_27 : decode cX5_writesMoved 27 = .ok (.iload_n 3, 1) := by decide +kernel
theorem dX5_writesMoved_28 : decode cX5_writesMoved 28 = .ok (.iadd, 1) := by decide +kernel
theorem dX5_writesMoved_29 : decode cX5_writesMoved 29 = .ok (.aload_n 0, 1) := by decide +kernel
theorem dX5_writesMoved_30 : decode cX5_writesMoved 30 = .ok (.getfield 16, 3) := by decide +kernel
theorem dX5_writesMoved_33 : decode cX5_writesMoved 33 = .ok (.iload_n 3, 1) := by decide +kernel
theorem dX5_writesMoved_34 : decode cX5_writesMoved 34 = .ok (.iaload, 1) := by decide +kernel
theorem dX5_writesMoved_35 : decode cX5_writesMoved 35 = .ok (.invokevirtual 50, 3) := by decide +kernel
theorem dX5_writesMoved_38 : decode cX5_writesMoved 38 = .ok (.iinc 3 1, 3) := by decide +kernel
theorem dX5_writesMoved_41 : decode cX5_writesMoved 41 = .ok (.goto (-32), 3) := by decide +kernel
theorem dX5_writesMoved_44 : decode cX5_writesMoved 44 = .ok (.return_, 1) := by decide +kernel
theorem dX5_inserts_0 : decode cX5_inserts 0 = .ok (.aload_n 0, 1) := by decide +kernel
theorem dX5_inserts_1 : decode cX5_inserts 1 = .ok (.aload_n 0, 1) := by decide +kernel
theorem dX5_inserts_2 : decode cX5_inserts 2 = .ok (.getfield 85, 3) := by decide +kernel
theorem dX5_inserts_5 : decode cX5_inserts 5 = .ok (.invokestatic 91, 3) := by decide +kernel
theorem dX5_inserts_8 : decode cX5_inserts 8 = .ok (.iconst (-1), 1) := by decide +kernel
theorem dX5_inserts_9 : decode cX5_inserts 9 = .ok (.iconst (-1), 1) := by decide +kernel
theorem dX5_inserts_10 : decode cX5_inserts 10 = .ok (.invokevirtual 94, 3) := by decide +kernel
theorem dX5_inserts_13 : decode cX5_inserts 13 = .ok (.istore_n 1, 1) := by decide +kernel
theorem dX5_inserts_14 : decode cX5_inserts 14 = .ok (.aload_n 0, 1) := by decide +kernel
theorem dX5_inserts_15 : decode cX5_inserts 15 = .ok (.iload_n 1, 1) := by decide +kernel
theorem dX5_inserts_16 : decode cX5_inserts 16 = .ok (.invokevirtual 97, 3) := by decide +kernel
theorem dX5_inserts_19 : decode cX5_inserts 19 = .ok (.aload_n 0, 1) := by decide +kernel
theorem dX5_inserts_20 : decode cX5_inserts 20 = .ok (.iload_n 1, 1) := by decide +kernel
theorem dX5_inserts_21 : decode cX5_inserts 21 = .ok (.aload_n 0, 1) := by decide +kernel
theorem dX5_inserts_22 : decode cX5_inserts 22 = .ok (.getfield 85, 3) := by decide +kernel
theorem dX5_inserts_25 : decode cX5_inserts 25 = .ok (.invokestatic 91, 3) := by decide +kernel
theorem dX5_inserts_28 : decode cX5_inserts 28 = .ok (.invokevirtual 101, 3) := by decide +kernel
theorem dX5_inserts_31 : decode cX5_inserts 31 = .ok (.istore_n 2, 1) := by decide +kernel
theorem dX5_inserts_32 : decode cX5_inserts 32 = .ok (.aload_n 0, 1) := by decide +kernel
theorem dX5_inserts_33 : decode cX5_inserts 33 = .ok (.iload_n 1, 1) := by decide +kernel
theorem dX5_inserts_34 : decode cX5_inserts 34 = .ok (.iload_n 2, 1) := by decide +kernel
theorem dX5_inserts_35 : decode cX5_inserts 35 = .ok (.invokevirtual 104, 3) := by decide +kernel
theorem dX5_inserts_38 : decode cX5_inserts 38 = .ok (.bipush 100, 2) := by decide +kernel
theorem dX5_inserts_40 : decode cX5_inserts 40 = .ok (.iload_n 1, 1) := by decide +kernel
theorem dX5_inserts_41 : decode cX5_inserts 41 = .ok (.imul, 1) := by decide +kernel
theorem dX5_inserts_42 : decode cX5_inserts 42 = .ok (.iload_n 2, 1) := by decide +kernel
theorem dX5_inserts_43 : decode cX5_inserts 43 = .ok (.iadd, 1) := by decide +kernel
theorem dX5_inserts_44 : decode cX5_inserts 44 = .ok (.ireturn, 1) := by decide +kernel
theorem dX5_way_0 : decode cX5_way 0 = .ok (.aload_n 0, 1) := by decide +kernel
theorem dX5_way_1 : decode cX5_way 1 = .ok (.iload_n 1, 1) := by decide +kernel
theorem dX5_way_2 : decode cX5_way 2 = .ok (.invokevirtual 82, 3) := by decide +kernel
theorem dX5_way_5 : decode cX5_way 5 = .ok (.istore_n 3, 1) := by decide +kernel
theorem dX5_way_6 : decode cX5_way 6 = .ok (.aload_n 0, 1) := by decide +kernel
theorem dX5_way_7 : decode cX5_way 7 = .ok (.iload_n 1, 1) := by decide +kernel
theorem dX5_way_8 : decode cX5_way 8 = .ok (.invokevirtual 75, 3) := by decide +kernel
theorem dX5_way_11 : decode cX5_way 11 = .ok (.iconst 2, 1) := by decide +kernel
theorem dX5_way_12 : decode cX5_way 12 = .ok (.if_icmp .ne 7, 3) := by decide +kernel
theorem dX5_way_15 : decode cX5_way 15 = .ok (.iconst 1, 1) := by decide +kernel
theorem dX5_way_16 : decode cX5_way 16 = .ok (.goto 4, 3) := by decide +kernel
theorem dX5_way_19 : decode cX5_way 19 = .ok (.iconst 0, 1) := by decide +kernel
theorem dX5_way_20 : decode cX5_way 20 = .ok (.istore 4, 2) := by decide +kernel
theorem dX5_way_22 : decode cX5_way 22 = .ok (.aload_n 0, 1) := by decide +kernel
theorem dX5_way_23 : decode cX5_way 23 = .ok (.iload_n 1, 1) := by decide +kernel
theorem dX5_way_24 : decode cX5_way 24 = .ok (.bipush 100, 2) := by decide +kernel
theorem dX5_way_26 : decode cX5_way 26 = .ok (.idiv, 1) := by decide +kernel
theorem dX5_way_27 : decode cX5_way 27 = .ok (.iload_n 1, 1) := by decide +kernel
theorem dX5_way_28 : decode cX5_way 28 = .ok (.bipush 100, 2) := by decide +kernel
theorem dX5_way_30 : decode cX5_way 30 = .ok (.irem, 1) := by decide +kernel
theorem dX5_way_31 : decode cX5_way 31 = .ok (.iload_n 2, 1) := by decide +kernel
theorem dX5_way_32 : decode cX5_way 32 = .ok (.invokestatic 91, 3) := by decide +kernel
theorem dX5_way_35 : decode cX5_way 35 = .ok (.invokevirtual 107, 3) := by decide +kernel
theorem dX5_way_38 : decode cX5_way 38 = .ok (.ifCond .eq 5, 3) := by decide +kernel
theorem dX5_way_41 : decode cX5_way 41 = .ok (.iconst 1, 1) := by decide +kernel
theorem dX5_way_42 : decode cX5_way 42 = .ok (.ireturn, 1) := by decide +kernel
theorem dX5_way_43 : decode cX5_way 43 = .ok (.iload 4, 2) := by decide +kernel
theorem dX5_way_45 : decode cX5_way 45 = .ok (.ifCond .eq 23, 3) := by decide +kernel
theorem dX5_way_48 : decode cX5_way 48 = .ok (.aload_n 0, 1) := by decide +kernel
theorem dX5_way_49 : decode cX5_way 49 = .ok (.iload_n 3, 1) := by decide +kernel
theorem dX5_way_50 : decode cX5_way 50 = .ok (.bipush 100, 2) := by decide +kernel
theorem dX5_way_52 : decode cX5_way 52 = .ok (.idiv, 1) := by decide +kernel
theorem dX5_way_53 : decode cX5_way 53 = .ok (.iload_n 3, 1) := by decide +kernel
theorem dX5_way_54 : decode cX5_way 54 = .ok (.bipush 100, 2) := by decide +kernel
theorem dX5_way_56 : decode cX5_way 56 = .ok (.irem, 1) := by decide +kernel
theorem dX5_way_57 : decode cX5_way 57 = .ok (.iload_n 2, 1) := by decide +kernel
theorem dX5_way_58 : decode cX5_way 58 = .ok (.iconst 3, 1) := by decide +kernel
theorem dX5_way_59 : decode cX5_way 59 = .ok (.iadd, 1) := by decide +kernel
theorem dX5_way_60 : decode cX5_way 60 = .ok (.invokevirtual 107, 3) := by decide +kernel
theorem dX5_way_63 : decode cX5_way 63 = .ok (.ifCond .eq 5, 3) := by decide +kernel
theorem dX5_way_66 : decode cX5_way 66 = .ok (.iconst 2, 1) := by decide +kernel
theorem dX5_way_67 : decode cX5_way 67 = .ok (.ireturn, 1) := by decide +kernel
theorem dX5_way_68 : decode cX5_way 68 = .ok (.aload_n 0, 1) := by decide +kernel
theorem dX5_way_69 : decode cX5_way 69 = .ok (.iload_n 2, 1) := by decide +kernel
theorem dX5_way_70 : decode cX5_way 70 = .ok (.iconst 3, 1) := by decide +kernel
theorem dX5_way_71 : decode cX5_way 71 = .ok (.iadd, 1) := by decide +kernel
theorem dX5_way_72 : decode cX5_way 72 = .ok (.iload_n 1, 1) := by decide +kernel
theorem dX5_way_73 : decode cX5_way 73 = .ok (.bipush 100, 2) := by decide +kernel
theorem dX5_way_75 : decode cX5_way 75 = .ok (.idiv, 1) := by decide +kernel
theorem dX5_way_76 : decode cX5_way 76 = .ok (.iload_n 3, 1) := by decide +kernel
theorem dX5_way_77 : decode cX5_way 77 = .ok (.bipush 100, 2) := by decide +kernel
theorem dX5_way_79 : decode cX5_way 79 = .ok (.idiv, 1) := by decide +kernel
theorem dX5_way_80 : decode cX5_way 80 = .ok (.invokevirtual 94, 3) := by decide +kernel
theorem dX5_way_83 : decode cX5_way 83 = .ok (.iconst (-1), 1) := by decide +kernel
theorem dX5_way_84 : decode cX5_way 84 = .ok (.if_icmp .ne 7, 3) := by decide +kernel
theorem dX5_way_87 : decode cX5_way 87 = .ok (.iconst (-1), 1) := by decide +kernel
theorem dX5_way_88 : decode cX5_way 88 = .ok (.goto 4, 3) := by decide +kernel
theorem dX5_way_91 : decode cX5_way 91 = .ok (.iconst 3, 1) := by decide +kernel
theorem dX5_way_92 : decode cX5_way 92 = .ok (.ireturn, 1) := by decide +kernel
theorem dX5_comesHome_0 : decode cX5_comesHome 0 = .ok (.aload_n 0, 1) := by decide +kernel
theorem dX5_comesHome_1 : decode cX5_comesHome 1 = .ok (.iload_n 1, 1) := by decide +kernel
theorem dX5_comesHome_2 : decode cX5_comesHome 2 = .ok (.invokevirtual 82, 3) := by decide +kernel
theorem dX5_comesHome_5 : decode cX5_comesHome 5 = .ok (.istore_n 2, 1) := by decide +kernel
theorem dX5_comesHome_6 : decode cX5_comesHome 6 = .ok (.aload_n 0, 1) := by decide +kernel
theorem dX5_comesHome_7 : decode cX5_comesHome 7 = .ok (.iload_n 1, 1) := by decide +kernel
theorem dX5_comesHome_8 : decode cX5_comesHome 8 = .ok (.invokevirtual 75, 3) := by decide +kernel
theorem dX5_comesHome_11 : decode cX5_comesHome 11 = .ok (.iconst 2, 1) := by decide +kernel
theorem dX5_comesHome_12 : decode cX5_comesHome 12 = .ok (.if_icmp .ne 25, 3) := by decide +kernel
theorem dX5_comesHome_15 : decode cX5_comesHome 15 = .ok (.aload_n 0, 1) := by decide +kernel
theorem dX5_comesHome_16 : decode cX5_comesHome 16 = .ok (.iload_n 2, 1) := by decide +kernel
theorem dX5_comesHome_17 : decode cX5_comesHome 17 = .ok (.bipush 100, 2) := by decide +kernel
theorem dX5_comesHome_19 : decode cX5_comesHome 19 = .ok (.idiv, 1) := by decide +kernel
theorem dX5_comesHome_20 : decode cX5_comesHome 20 = .ok (.iload_n 2, 1) := by decide +kernel
theorem dX5_comesHome_21 : decode cX5_comesHome 21 = .ok (.bipush 100, 2) := by decide +kernel
theorem dX5_comesHome_23 : decode cX5_comesHome 23 = .ok (.irem, 1) := by decide +kernel
theorem dX5_comesHome_24 : decode cX5_comesHome 24 = .ok (.invokevirtual 110, 3) := by decide +kernel
theorem dX5_comesHome_27 : decode cX5_comesHome 27 = .ok (.aload_n 0, 1) := by decide +kernel
theorem dX5_comesHome_28 : decode cX5_comesHome 28 = .ok (.getfield 7, 3) := by decide +kernel
theorem dX5_comesHome_31 : decode cX5_comesHome 31 = .ok (.iconst 2, 1) := by decide +kernel
theorem dX5_comesHome_32 : decode cX5_comesHome 32 = .ok (.dup2, 1) := by decide +kernel
theorem dX5_comesHome_33 : decode cX5_comesHome 33 = .ok (.iaload, 1) := by decide +kernel
theorem dX5_comesHome_34 : decode cX5_comesHome 34 = .ok (.iconst 1, 1) := by decide +kernel
theorem dX5_comesHome_35 : decode cX5_comesHome 35 = .ok (.iadd, 1) := by decide +kernel
theorem dX5_comesHome_36 : decode cX5_comesHome 36 = .ok (.iastore, 1) := by decide +kernel
theorem dX5_comesHome_37 : decode cX5_comesHome 37 = .ok (.aload_n 0, 1) := by decide +kernel
theorem dX5_comesHome_38 : decode cX5_comesHome 38 = .ok (.iload_n 1, 1) := by decide +kernel
theorem dX5_comesHome_39 : decode cX5_comesHome 39 = .ok (.bipush 100, 2) := by decide +kernel
theorem dX5_comesHome_41 : decode cX5_comesHome 41 = .ok (.idiv, 1) := by decide +kernel
theorem dX5_comesHome_42 : decode cX5_comesHome 42 = .ok (.iload_n 1, 1) := by decide +kernel
theorem dX5_comesHome_43 : decode cX5_comesHome 43 = .ok (.bipush 100, 2) := by decide +kernel
theorem dX5_comesHome_45 : decode cX5_comesHome 45 = .ok (.irem, 1) := by decide +kernel
theorem dX5_comesHome_46 : decode cX5_comesHome 46 = .ok (.aload_n 0, 1) := by decide +kernel
theorem dX5_comesHome_47 : decode cX5_comesHome 47 = .ok (.getfield 85, 3) := by decide +kernel
theorem dX5_comesHome_50 : decode cX5_comesHome 50 = .ok (.invokestatic 91, 3) := by decide +kernel
theorem dX5_comesHome_53 : decode cX5_comesHome 53 = .ok (.invokevirtual 113, 3) := by decide +kernel
theorem dX5_comesHome_56 : decode cX5_comesHome 56 = .ok (.aload_n 0, 1) := by decide +kernel
theorem dX5_comesHome_57 : decode cX5_comesHome 57 = .ok (.iload_n 1, 1) := by decide +kernel
theorem dX5_comesHome_58 : decode cX5_comesHome 58 = .ok (.bipush 100, 2) := by decide +kernel
theorem dX5_comesHome_60 : decode cX5_comesHome 60 = .ok (.idiv, 1) := by decide +kernel
theorem dX5_comesHome_61 : decode cX5_comesHome 61 = .ok (.iload_n 1, 1) := by decide +kernel
theorem dX5_comesHome_62 : decode cX5_comesHome 62 = .ok (.bipush 100, 2) := by decide +kernel
theorem dX5_comesHome_64 : decode cX5_comesHome 64 = .ok (.irem, 1) := by decide +kernel
theorem dX5_comesHome_65 : decode cX5_comesHome 65 = .ok (.invokevirtual 104, 3) := by decide +kernel
theorem dX5_comesHome_68 : decode cX5_comesHome 68 = .ok (.return_, 1) := by decide +kernel
theorem dX5_goesOut_0 : decode cX5_goesOut 0 = .ok (.aload_n 0, 1) := by decide +kernel
theorem dX5_goesOut_1 : decode cX5_goesOut 1 = .ok (.iload_n 1, 1) := by decide +kernel
theorem dX5_goesOut_2 : decode cX5_goesOut 2 = .ok (.invokevirtual 82, 3) := by decide +kernel
theorem dX5_goesOut_5 : decode cX5_goesOut 5 = .ok (.istore_n 2, 1) := by decide +kernel
theorem dX5_goesOut_6 : decode cX5_goesOut 6 = .ok (.aload_n 0, 1) := by decide +kernel
theorem dX5_goesOut_7 : decode cX5_goesOut 7 = .ok (.aload_n 0, 1) := by decide +kernel
theorem dX5_goesOut_8 : decode cX5_goesOut 8 = .ok (.getfield 85, 3) := by decide +kernel
theorem dX5_goesOut_11 : decode cX5_goesOut 11 = .ok (.iconst 3, 1) := by decide +kernel
theorem dX5_goesOut_12 : decode cX5_goesOut 12 = .ok (.iadd, 1) := by decide +kernel
theorem dX5_goesOut_13 : decode cX5_goesOut 13 = .ok (.iload_n 1, 1) := by decide +kernel
theorem dX5_goesOut_14 : decode cX5_goesOut 14 = .ok (.bipush 100, 2) := by decide +kernel
theorem dX5_goesOut_16 : decode cX5_goesOut 16 = .ok (.idiv, 1) := by decide +kernel
theorem dX5_goesOut_17 : decode cX5_goesOut 17 = .ok (.iload_n 2, 1) := by decide +kernel
theorem dX5_goesOut_18 : decode cX5_goesOut 18 = .ok (.bipush 100, 2) := by decide +kernel
theorem dX5_goesOut_20 : decode cX5_goesOut 20 = .ok (.idiv, 1) := by decide +kernel
theorem dX5_goesOut_21 : decode cX5_goesOut 21 = .ok (.invokevirtual 94, 3) := by decide +kernel
theorem dX5_goesOut_24 : decode cX5_goesOut 24 = .ok (.istore_n 3, 1) := by decide +kernel
theorem dX5_goesOut_25 : decode cX5_goesOut 25 = .ok (.aload_n 0, 1) := by decide +kernel
theorem dX5_goesOut_26 : decode cX5_goesOut 26 = .ok (.iload_n 3, 1) := by decide +kernel
theorem dX5_goesOut_27 : decode cX5_goesOut 27 = .ok (.invokevirtual 97, 3) := by decide +kernel
theorem dX5_goesOut_30 : decode cX5_goesOut 30 = .ok (.bipush 100, 2) := by decide +kernel
theorem dX5_goesOut_32 : decode cX5_goesOut 32 = .ok (.iload_n 3, 1) := by decide +kernel
theorem dX5_goesOut_33 : decode cX5_goesOut 33 = .ok (.imul, 1) := by decide +kernel
theorem dX5_goesOut_34 : decode cX5_goesOut 34 = .ok (.aload_n 0, 1) := by decide +kernel
theorem dX5_goesOut_35 : decode cX5_goesOut 35 = .ok (.iload_n 3, 1) := by decide +kernel
theorem dX5_goesOut_36 : decode cX5_goesOut 36 = .ok (.aload_n 0, 1) := by decide +kernel
theorem dX5_goesOut_37 : decode cX5_goesOut 37 = .ok (.getfield 85, 3) := by decide +kernel
theorem dX5_goesOut_40 : decode cX5_goesOut 40 = .ok (.iconst 3, 1) := by decide +kernel
theorem dX5_goesOut_41 : decode cX5_goesOut 41 = .ok (.iadd, 1) := by decide +kernel
theorem dX5_goesOut_42 : decode cX5_goesOut 42 = .ok (.invokevirtual 101, 3) := by decide +kernel
theorem dX5_goesOut_45 : decode cX5_goesOut 45 = .ok (.iadd, 1) := by decide +kernel
theorem dX5_goesOut_46 : decode cX5_goesOut 46 = .ok (.istore 4, 2) := by decide +kernel
theorem dX5_goesOut_48 : decode cX5_goesOut 48 = .ok (.aload_n 0, 1) := by decide +kernel
theorem dX5_goesOut_49 : decode cX5_goesOut 49 = .ok (.iload 4, 2) := by decide +kernel
theorem dX5_goesOut_51 : decode cX5_goesOut 51 = .ok (.iload_n 1, 1) := by decide +kernel
theorem dX5_goesOut_52 : decode cX5_goesOut 52 = .ok (.invokevirtual 116, 3) := by decide +kernel
theorem dX5_goesOut_55 : decode cX5_goesOut 55 = .ok (.aload_n 0, 1) := by decide +kernel
theorem dX5_goesOut_56 : decode cX5_goesOut 56 = .ok (.iload_n 1, 1) := by decide +kernel
theorem dX5_goesOut_57 : decode cX5_goesOut 57 = .ok (.invokevirtual 75, 3) := by decide +kernel
theorem dX5_goesOut_60 : decode cX5_goesOut 60 = .ok (.iconst 1, 1) := by decide +kernel
theorem dX5_goesOut_61 : decode cX5_goesOut 61 = .ok (.if_icmp .ne 19, 3) := by decide +kernel
theorem dX5_goesOut_64 : decode cX5_goesOut 64 = .ok (.aload_n 0, 1) := by decide +kernel
theorem dX5_goesOut_65 : decode cX5_goesOut 65 = .ok (.iload_n 1, 1) := by decide +kernel
theorem dX5_goesOut_66 : decode cX5_goesOut 66 = .ok (.bipush 100, 2) := by decide +kernel
theorem dX5_goesOut_68 : decode cX5_goesOut 68 = .ok (.idiv, 1) := by decide +kernel
theorem dX5_goesOut_69 : decode cX5_goesOut 69 = .ok (.iload_n 1, 1) := by decide +kernel
theorem dX5_goesOut_70 : decode cX5_goesOut 70 = .ok (.bipush 100, 2) := by decide +kernel
theorem dX5_goesOut_72 : decode cX5_goesOut 72 = .ok (.irem, 1) := by decide +kernel
theorem dX5_goesOut_73 : decode cX5_goesOut 73 = .ok (.iconst 3, 1) := by decide +kernel
theorem dX5_goesOut_74 : decode cX5_goesOut 74 = .ok (.invokevirtual 113, 3) := by decide +kernel
theorem dX5_goesOut_77 : decode cX5_goesOut 77 = .ok (.goto 15, 3) := by decide +kernel
theorem dX5_goesOut_80 : decode cX5_goesOut 80 = .ok (.aload_n 0, 1) := by decide +kernel
theorem dX5_goesOut_81 : decode cX5_goesOut 81 = .ok (.iload_n 2, 1) := by decide +kernel
theorem dX5_goesOut_82 : decode cX5_goesOut 82 = .ok (.bipush 100, 2) := by decide +kernel
theorem dX5_goesOut_84 : decode cX5_goesOut 84 = .ok (.idiv, 1) := by decide +kernel
theorem dX5_goesOut_85 : decode cX5_goesOut 85 = .ok (.iload_n 2, 1) := by decide +kernel
theorem dX5_goesOut_86 : decode cX5_goesOut 86 = .ok (.bipush 100, 2) := by decide +kernel
theorem dX5_goesOut_88 : decode cX5_goesOut 88 = .ok (.irem, 1) := by decide +kernel
theorem dX5_goesOut_89 : decode cX5_goesOut 89 = .ok (.invokevirtual 110, 3) := by decide +kernel
theorem dX5_goesOut_92 : decode cX5_goesOut 92 = .ok (.aload_n 0, 1) := by decide +kernel
theorem dX5_goesOut_93 : decode cX5_goesOut 93 = .ok (.iload_n 1, 1) := by decide +kernel
theorem dX5_goesOut_94 : decode cX5_goesOut 94 = .ok (.iconst 2, 1) := by decide +kernel
theorem dX5_goesOut_95 : decode cX5_goesOut 95 = .ok (.iload 4, 2) := by decide +kernel
theorem dX5_goesOut_97 : decode cX5_goesOut 97 = .ok (.invokevirtual 88, 3) := by decide +kernel
theorem dX5_goesOut_100 : decode cX5_goesOut 100 = .ok (.aload_n 0, 1) := by decide +kernel
theorem dX5_goesOut_101 : decode cX5_goesOut 101 = .ok (.getfield 7, 3) := by decide +kernel
theorem dX5_goesOut_104 : decode cX5_goesOut 104 = .ok (.iconst 1, 1) := by decide +kernel
theorem dX5_goesOut_105 : decode cX5_goesOut 105 = .ok (.dup2, 1) := by decide +kernel
theorem dX5_goesOut_106 : decode cX5_goesOut 106 = .ok (.iaload, 1) := by decide +kernel
theorem dX5_goesOut_107 : decode cX5_goesOut 107 = .ok (.iconst 1, 1) := by decide +kernel
theorem dX5_goesOut_108 : decode cX5_goesOut 108 = .ok (.iadd, 1) := by decide +kernel
theorem dX5_goesOut_109 : decode cX5_goesOut 109 = .ok (.iastore, 1) := by decide +kernel
theorem dX5_goesOut_110 : decode cX5_goesOut 110 = .ok (.return_, 1) := by decide +kernel
theorem dX5_updates_0 : decode cX5_updates 0 = .ok (.aload_n 0, 1) := by decide +kernel
theorem dX5_updates_1 : decode cX5_updates 1 = .ok (.iload_n 1, 1) := by decide +kernel
theorem dX5_updates_2 : decode cX5_updates 2 = .ok (.aload_n 0, 1) := by decide +kernel
theorem dX5_updates_3 : decode cX5_updates 3 = .ok (.getfield 85, 3) := by decide +kernel
theorem dX5_updates_6 : decode cX5_updates 6 = .ok (.invokevirtual 119, 3) := by decide +kernel
theorem dX5_updates_9 : decode cX5_updates 9 = .ok (.istore_n 2, 1) := by decide +kernel
theorem dX5_updates_10 : decode cX5_updates 10 = .ok (.iload_n 2, 1) := by decide +kernel
theorem dX5_updates_11 : decode cX5_updates 11 = .ok (.iconst 1, 1) := by decide +kernel
theorem dX5_updates_12 : decode cX5_updates 12 = .ok (.if_icmp .ne 11, 3) := by decide +kernel
theorem dX5_updates_15 : decode cX5_updates 15 = .ok (.aload_n 0, 1) := by decide +kernel
theorem dX5_updates_16 : decode cX5_updates 16 = .ok (.iload_n 1, 1) := by decide +kernel
theorem dX5_updates_17 : decode cX5_updates 17 = .ok (.invokevirtual 122, 3) := by decide +kernel
theorem dX5_updates_20 : decode cX5_updates 20 = .ok (.goto 46, 3) := by decide +kernel
theorem dX5_updates_23 : decode cX5_updates 23 = .ok (.iload_n 2, 1) := by decide +kernel
theorem dX5_updates_24 : decode cX5_updates 24 = .ok (.iconst 2, 1) := by decide +kernel
theorem dX5_updates_25 : decode cX5_updates 25 = .ok (.if_icmp .ne 36, 3) := by decide +kernel
theorem dX5_updates_28 : decode cX5_updates 28 = .ok (.aload_n 0, 1) := by decide +kernel
theorem dX5_updates_29 : decode cX5_updates 29 = .ok (.iload_n 1, 1) := by decide +kernel
theorem dX5_updates_30 : decode cX5_updates 30 = .ok (.invokevirtual 82, 3) := by decide +kernel
theorem dX5_updates_33 : decode cX5_updates 33 = .ok (.istore_n 3, 1) := by decide +kernel
theorem dX5_updates_34 : decode cX5_updates 34 = .ok (.aload_n 0, 1) := by decide +kernel
theorem dX5_updates_35 : decode cX5_updates 35 = .ok (.iload_n 3, 1) := by decide +kernel
theorem dX5_updates_36 : decode cX5_updates 36 = .ok (.bipush 100, 2) := by decide +kernel
theorem dX5_updates_38 : decode cX5_updates 38 = .ok (.idiv, 1) := by decide +kernel
theorem dX5_updates_39 : decode cX5_updates 39 = .ok (.iload_n 3, 1) := by decide +kernel
theorem dX5_updates_40 : decode cX5_updates 40 = .ok (.bipush 100, 2) := by decide +kernel
theorem dX5_updates_42 : decode cX5_updates 42 = .ok (.irem, 1) := by decide +kernel
theorem dX5_updates_43 : decode cX5_updates 43 = .ok (.aload_n 0, 1) := by decide +kernel
theorem dX5_updates_44 : decode cX5_updates 44 = .ok (.getfield 85, 3) := by decide +kernel
theorem dX5_updates_47 : decode cX5_updates 47 = .ok (.iconst 3, 1) := by decide +kernel
theorem dX5_updates_48 : decode cX5_updates 48 = .ok (.iadd, 1) := by decide +kernel
theorem dX5_updates_49 : decode cX5_updates 49 = .ok (.invokevirtual 113, 3) := by decide +kernel
theorem dX5_updates_52 : decode cX5_updates 52 = .ok (.aload_n 0, 1) := by decide +kernel
theorem dX5_updates_53 : decode cX5_updates 53 = .ok (.iload_n 3, 1) := by decide +kernel
theorem dX5_updates_54 : decode cX5_updates 54 = .ok (.iload_n 1, 1) := by decide +kernel
theorem dX5_updates_55 : decode cX5_updates 55 = .ok (.invokevirtual 116, 3) := by decide +kernel
theorem dX5_updates_58 : decode cX5_updates 58 = .ok (.goto 8, 3) := by decide +kernel
theorem dX5_updates_61 : decode cX5_updates 61 = .ok (.aload_n 0, 1) := by decide +kernel
theorem dX5_updates_62 : decode cX5_updates 62 = .ok (.iload_n 1, 1) := by decide +kernel
theorem dX5_updates_63 : decode cX5_updates 63 = .ok (.invokevirtual 125, 3) := by decide +kernel
theorem dX5_updates_66 : decode cX5_updates 66 = .ok (.iload_n 2, 1) := by decide +kernel
theorem dX5_updates_67 : decode cX5_updates 67 = .ok (.ireturn, 1) := by decide +kernel
theorem dX5_deletes_0 : decode cX5_deletes 0 = .ok (.aload_n 0, 1) := by decide +kernel
theorem dX5_deletes_1 : decode cX5_deletes 1 = .ok (.iload_n 1, 1) := by decide +kernel
theorem dX5_deletes_2 : decode cX5_deletes 2 = .ok (.invokevirtual 128, 3) := by decide +kernel
theorem dX5_deletes_5 : decode cX5_deletes 5 = .ok (.istore_n 2, 1) := by decide +kernel
theorem dX5_deletes_6 : decode cX5_deletes 6 = .ok (.aload_n 0, 1) := by decide +kernel
theorem dX5_deletes_7 : decode cX5_deletes 7 = .ok (.iload_n 1, 1) := by decide +kernel
theorem dX5_deletes_8 : decode cX5_deletes 8 = .ok (.invokevirtual 82, 3) := by decide +kernel
theorem dX5_deletes_11 : decode cX5_deletes 11 = .ok (.istore_n 3, 1) := by decide +kernel
theorem dX5_deletes_12 : decode cX5_deletes 12 = .ok (.aload_n 0, 1) := by decide +kernel
theorem dX5_deletes_13 : decode cX5_deletes 13 = .ok (.iload_n 3, 1) := by decide +kernel
theorem dX5_deletes_14 : decode cX5_deletes 14 = .ok (.bipush 100, 2) := by decide +kernel
theorem dX5_deletes_16 : decode cX5_deletes 16 = .ok (.idiv, 1) := by decide +kernel
theorem dX5_deletes_17 : decode cX5_deletes 17 = .ok (.iload_n 3, 1) := by decide +kernel
theorem dX5_deletes_18 : decode cX5_deletes 18 = .ok (.bipush 100, 2) := by decide +kernel
theorem dX5_deletes_20 : decode cX5_deletes 20 = .ok (.irem, 1) := by decide +kernel
theorem dX5_deletes_21 : decode cX5_deletes 21 = .ok (.invokevirtual 110, 3) := by decide +kernel
theorem dX5_deletes_24 : decode cX5_deletes 24 = .ok (.iload_n 3, 1) := by decide +kernel
theorem dX5_deletes_25 : decode cX5_deletes 25 = .ok (.iload_n 1, 1) := by decide +kernel
theorem dX5_deletes_26 : decode cX5_deletes 26 = .ok (.if_icmp .eq 15, 3) := by decide +kernel
theorem dX5_deletes_29 : decode cX5_deletes 29 = .ok (.aload_n 0, 1) := by decide +kernel
theorem dX5_deletes_30 : decode cX5_deletes 30 = .ok (.iload_n 1, 1) := by decide +kernel
theorem dX5_deletes_31 : decode cX5_deletes 31 = .ok (.bipush 100, 2) := by decide +kernel
theorem dX5_deletes_33 : decode cX5_deletes 33 = .ok (.idiv, 1) := by decide +kernel
theorem dX5_deletes_34 : decode cX5_deletes 34 = .ok (.iload_n 1, 1) := by decide +kernel
theorem dX5_deletes_35 : decode cX5_deletes 35 = .ok (.bipush 100, 2) := by decide +kernel
theorem dX5_deletes_37 : decode cX5_deletes 37 = .ok (.irem, 1) := by decide +kernel
theorem dX5_deletes_38 : decode cX5_deletes 38 = .ok (.invokevirtual 110, 3) := by decide +kernel
theorem dX5_deletes_41 : decode cX5_deletes 41 = .ok (.iload_n 2, 1) := by decide +kernel
theorem dX5_deletes_42 : decode cX5_deletes 42 = .ok (.ireturn, 1) := by decide +kernel
theorem dX5_returnsAll_0 : decode cX5_returnsAll 0 = .ok (.iconst 0, 1) := by decide +kernel
theorem dX5_returnsAll_1 : decode cX5_returnsAll 1 = .ok (.istore_n 1, 1) := by decide +kernel
theorem dX5_returnsAll_2 : decode cX5_returnsAll 2 = .ok (.iconst 0, 1) := by decide +kernel
theorem dX5_returnsAll_3 : decode cX5_returnsAll 3 = .ok (.istore_n 2, 1) := by decide +kernel
theorem dX5_returnsAll_4 : decode cX5_returnsAll 4 = .ok (.iload_n 2, 1) := by decide +kernel
theorem dX5_returnsAll_5 : decode cX5_returnsAll 5 = .ok (.bipush 100, 2) := by decide +kernel
theorem dX5_returnsAll_7 : decode cX5_returnsAll 7 = .ok (.aload_n 0, 1) := by decide +kernel
theorem dX5_returnsAll_8 : decode cX5_returnsAll 8 = .ok (.getfield 7, 3) := by decide +kernel
theorem dX5_returnsAll_11 : decode cX5_returnsAll 11 = .ok (.iconst 0, 1) := by decide +kernel
theorem dX5_returnsAll_12 : decode cX5_returnsAll 12 = .ok (.iaload, 1) := by decide +kernel
theorem dX5_returnsAll_13 : decode cX5_returnsAll 13 = .ok (.imul, 1) := by decide +kernel
theorem dX5_returnsAll_14 : decode cX5_returnsAll 14 = .ok (.if_icmp .ge 45, 3) := by decide +kernel
theorem dX5_returnsAll_17 : decode cX5_returnsAll 17 = .ok (.aload_n 0, 1) := by decide +kernel
theorem dX5_returnsAll_18 : decode cX5_returnsAll 18 = .ok (.iload_n 2, 1) := by decide +kernel
theorem dX5_returnsAll_19 : decode cX5_returnsAll 19 = .ok (.invokevirtual 75, 3) := by decide +kernel
theorem dX5_returnsAll_22 : decode cX5_returnsAll 22 = .ok (.iconst 2, 1) := by decide +kernel
theorem dX5_returnsAll_23 : decode cX5_returnsAll 23 = .ok (.if_icmp .ne 30, 3) := by decide +kernel
theorem dX5_returnsAll_26 : decode cX5_returnsAll 26 = .ok (.aload_n 0, 1) := by decide +kernel
theorem dX5_returnsAll_27 : decode cX5_returnsAll 27 = .ok (.iload_n 2, 1) := by decide +kernel
theorem dX5_returnsAll_28 : decode cX5_returnsAll 28 = .ok (.aload_n 0, 1) := by decide +kernel
theorem dX5_returnsAll_29 : decode cX5_returnsAll 29 = .ok (.iload_n 2, 1) := by decide +kernel
theorem dX5_returnsAll_30 : decode cX5_returnsAll 30 = .ok (.invokevirtual 128, 3) := by decide +kernel
theorem dX5_returnsAll_33 : decode cX5_returnsAll 33 = .ok (.invokevirtual 119, 3) := by decide +kernel
theorem dX5_returnsAll_36 : decode cX5_returnsAll 36 = .ok (.iconst 1, 1) := by decide +kernel
theorem dX5_returnsAll_37 : decode cX5_returnsAll 37 = .ok (.if_icmp .ne 16, 3) := by decide +kernel
theorem dX5_returnsAll_40 : decode cX5_returnsAll 40 = .ok (.aload_n 0, 1) := by decide +kernel
theorem dX5_returnsAll_41 : decode cX5_returnsAll 41 = .ok (.iload_n 2, 1) := by decide +kernel
theorem dX5_returnsAll_42 : decode cX5_returnsAll 42 = .ok (.invokevirtual 131, 3) := by decide +kernel
theorem dX5_returnsAll_45 : decode cX5_returnsAll 45 = .ok (.aload_n 0, 1) := by decide +kernel
theorem dX5_returnsAll_46 : decode cX5_returnsAll 46 = .ok (.iload_n 2, 1) := by decide +kernel
theorem dX5_returnsAll_47 : decode cX5_returnsAll 47 = .ok (.invokevirtual 122, 3) := by decide +kernel
theorem dX5_returnsAll_50 : decode cX5_returnsAll 50 = .ok (.iinc 1 1, 3) := by decide +kernel
theorem dX5_returnsAll_53 : decode cX5_returnsAll 53 = .ok (.iinc 2 1, 3) := by decide +kernel
theorem dX5_returnsAll_56 : decode cX5_returnsAll 56 = .ok (.goto (-52), 3) := by decide +kernel
theorem dX5_returnsAll_59 : decode cX5_returnsAll 59 = .ok (.iload_n 1, 1) := by decide +kernel
theorem dX5_returnsAll_60 : decode cX5_returnsAll 60 = .ok (.ireturn, 1) := by decide +kernel
theorem dX5_takesRow_0 : decode cX5_takesRow 0 = .ok (.aload_n 0, 1) := by decide +kernel
theorem dX5_takesRow_1 : decode cX5_takesRow 1 = .ok (.aload_n 0, 1) := by decide +kernel
theorem dX5_takesRow_2 : decode cX5_takesRow 2 = .ok (.iload_n 1, 1) := by decide +kernel
theorem dX5_takesRow_3 : decode cX5_takesRow 3 = .ok (.invokevirtual 128, 3) := by decide +kernel
theorem dX5_takesRow_6 : decode cX5_takesRow 6 = .ok (.putfield 85, 3) := by decide +kernel
theorem dX5_takesRow_9 : decode cX5_takesRow 9 = .ok (.iconst 0, 1) := by decide +kernel
theorem dX5_takesRow_10 : decode cX5_takesRow 10 = .ok (.istore_n 2, 1) := by decide +kernel
theorem dX5_takesRow_11 : decode cX5_takesRow 11 = .ok (.iload_n 2, 1) := by decide +kernel
theorem dX5_takesRow_12 : decode cX5_takesRow 12 = .ok (.aload_n 0, 1) := by decide +kernel
theorem dX5_takesRow_13 : decode cX5_takesRow 13 = .ok (.getfield 85, 3) := by decide +kernel
theorem dX5_takesRow_16 : decode cX5_takesRow 16 = .ok (.if_icmp .ge 21, 3) := by decide +kernel
theorem dX5_takesRow_19 : decode cX5_takesRow 19 = .ok (.aload_n 0, 1) := by decide +kernel
theorem dX5_takesRow_20 : decode cX5_takesRow 20 = .ok (.getfield 16, 3) := by decide +kernel
theorem dX5_takesRow_23 : decode cX5_takesRow 23 = .ok (.iload_n 2, 1) := by decide +kernel
theorem dX5_takesRow_24 : decode cX5_takesRow 24 = .ok (.aload_n 0, 1) := by decide +kernel
theorem dX5_takesRow_25 : decode cX5_takesRow 25 = .ok (.iload_n 1, 1) := by decide +kernel
theorem dX5_takesRow_26 : decode cX5_takesRow 26 = .ok (.iload_n 2, 1) := by decide +kernel
theorem dX5_takesRow_27 : decode cX5_takesRow 27 = .ok (.invokevirtual 134, 3) := by decide +kernel
theorem dX5_takesRow_30 : decode cX5_takesRow 30 = .ok (.iastore, 1) := by decide +kernel
theorem dX5_takesRow_31 : decode cX5_takesRow 31 = .ok (.iinc 2 1, 3) := by decide +kernel
theorem dX5_takesRow_34 : decode cX5_takesRow 34 = .ok (.goto (-23), 3) := by decide +kernel
theorem dX5_takesRow_37 : decode cX5_takesRow 37 = .ok (.return_, 1) := by decide +kernel
theorem dX5_takesBuffer_0 : decode cX5_takesBuffer 0 = .ok (.aload_n 0, 1) := by decide +kernel
theorem dX5_takesBuffer_1 : decode cX5_takesBuffer 1 = .ok (.iload_n 2, 1) := by decide +kernel
theorem dX5_takesBuffer_2 : decode cX5_takesBuffer 2 = .ok (.iload_n 1, 1) := by decide +kernel
theorem dX5_takesBuffer_3 : decode cX5_takesBuffer 3 = .ok (.isub, 1) := by decide +kernel
theorem dX5_takesBuffer_4 : decode cX5_takesBuffer 4 = .ok (.putfield 85, 3) := by decide +kernel
theorem dX5_takesBuffer_7 : decode cX5_takesBuffer 7 = .ok (.iconst 0, 1) := by decide +kernel
theorem dX5_takesBuffer_8 : decode cX5_takesBuffer 8 = .ok (.istore_n 3, 1) := by decide +kernel
theorem dX5_takesBuffer_9 : decode cX5_takesBuffer 9 = .ok (.iload_n 3, 1) := by decide +kernel
theorem dX5_takesBuffer_10 : decode cX5_takesBuffer 10 = .ok (.aload_n 0, 1) := by decide +kernel
theorem dX5_takesBuffer_11 : decode cX5_takesBuffer 11 = .ok (.getfield 85, 3) := by decide +kernel
theorem dX5_takesBuffer_14 : decode cX5_takesBuffer 14 = .ok (.if_icmp .ge 23, 3) := by decide +kernel
theorem dX5_takesBuffer_17 : decode cX5_takesBuffer 17 = .ok (.aload_n 0, 1) := by decide +kernel
theorem dX5_takesBuffer_18 : decode cX5_takesBuffer 18 = .ok (.getfield 16, 3) := by decide +kernel
theorem dX5_takesBuffer_21 : decode cX5_takesBuffer 21 = .ok (.iload_n 3, 1) := by decide +kernel
theorem dX5_takesBuffer_22 : decode cX5_takesBuffer 22 = .ok (.aload_n 0, 1) := by decide +kernel
theorem dX5_takesBuffer_23 : decode cX5_takesBuffer 23 = .ok (.getfield 13, 3) := by decide +kernel
theorem dX5_takesBuffer_26 : decode cX5_takesBuffer 26 = .ok (.iload_n 1, 1) := by decide +kernel
theorem dX5_takesBuffer_27 : decode cX5_takesBuffer 27 = .ok (.iload_n 3, 1) := by decide +kernel
theorem dX5_takesBuffer_28 : decode cX5_takesBuffer 28 = .ok (.iadd, 1) := by decide +kernel
theorem dX5_takesBuffer_29 : decode cX5_takesBuffer 29 = .ok (.iaload, 1) := by decide +kernel
theorem dX5_takesBuffer_30 : decode cX5_takesBuffer 30 = .ok (.iastore, 1) := by decide +kernel
theorem dX5_takesBuffer_31 : decode cX5_takesBuffer 31 = .ok (.iinc 3 1, 3) := by decide +kernel
theorem dX5_takesBuffer_34 : decode cX5_takesBuffer 34 = .ok (.goto (-25), 3) := by decide +kernel
theorem dX5_takesBuffer_37 : decode cX5_takesBuffer 37 = .ok (.return_, 1) := by decide +kernel
theorem dX5_copies_0 : decode cX5_copies 0 = .ok (.iconst 0, 1) := by decide +kernel
theorem dX5_copies_1 : decode cX5_copies 1 = .ok (.istore_n 3, 1) := by decide +kernel
theorem dX5_copies_2 : decode cX5_copies 2 = .ok (.iload_n 3, 1) := by decide +kernel
theorem dX5_copies_3 : decode cX5_copies 3 = .ok (.sipush 1532, 3) := by decide +kernel
theorem dX5_copies_6 : decode cX5_copies 6 = .ok (.if_icmp .ge 33, 3) := by decide +kernel
theorem dX5_copies_9 : decode cX5_copies 9 = .ok (.aload_n 0, 1) := by decide +kernel
theorem dX5_copies_10 : decode cX5_copies 10 = .ok (.getfield 7, 3) := by decide +kernel
theorem dX5_copies_13 : decode cX5_copies 13 = .ok (.sipush 1532, 3) := by decide +kernel
theorem dX5_copies_16 : decode cX5_copies 16 = .ok (.iload_n 2, 1) := by decide +kernel
theorem dX5_copies_17 : decode cX5_copies 17 = .ok (.imul, 1) := by decide +kernel
theorem dX5_copies_18 : decode cX5_copies 18 = .ok (.iload_n 3, 1) := by decide +kernel
theorem dX5_copies_19 : decode cX5_copies 19 = .ok (.iadd, 1) := by decide +kernel
theorem dX5_copies_20 : decode cX5_copies 20 = .ok (.aload_n 0, 1) := by decide +kernel
theorem dX5_copies_21 : decode cX5_copies 21 = .ok (.getfield 7, 3) := by decide +kernel
theorem dX5_copies_24 : decode cX5_copies 24 = .ok (.sipush 1532, 3) := by decide +kernel
theorem dX5_copies_27 : decode cX5_copies 27 = .ok (.iload_n 1, 1) := by decide +kernel
theorem dX5_copies_28 : decode cX5_copies 28 = .ok (.imul, 1) := by decide +kernel
theorem dX5_copies_29 : decode cX5_copies 29 = .ok (.iload_n 3, 1) := by decide +kernel
theorem dX5_copies_30 : decode cX5_copies 30 = .ok (.iadd, 1) := by decide +kernel
theorem dX5_copies_31 : decode cX5_copies 31 = .ok (.iaload, 1) := by decide +kernel
theorem dX5_copies_32 : decode cX5_copies 32 = .ok (.iastore, 1) := by decide +kernel
theorem dX5_copies_33 : decode cX5_copies 33 = .ok (.iinc 3 1, 3) := by decide +kernel
theorem dX5_copies_36 : decode cX5_copies 36 = .ok (.goto (-34), 3) := by decide +kernel
theorem dX5_copies_39 : decode cX5_copies 39 = .ok (.return_, 1) := by decide +kernel
theorem dX5_save_0 : decode cX5_save 0 = .ok (.iconst 1, 1) := by decide +kernel
theorem dX5_save_1 : decode cX5_save 1 = .ok (.istore_n 1, 1) := by decide +kernel
theorem dX5_save_2 : decode cX5_save 2 = .ok (.iload_n 1, 1) := by decide +kernel
theorem dX5_save_3 : decode cX5_save 3 = .ok (.bipush 6, 2) := by decide +kernel
theorem dX5_save_5 : decode cX5_save 5 = .ok (.if_icmp .ge 26, 3) := by decide +kernel
theorem dX5_save_8 : decode cX5_save 8 = .ok (.aload_n 0, 1) := by decide +kernel
theorem dX5_save_9 : decode cX5_save 9 = .ok (.getfield 137, 3) := by decide +kernel
theorem dX5_save_12 : decode cX5_save 12 = .ok (.bipush 6, 2) := by decide +kernel
theorem dX5_save_14 : decode cX5_save 14 = .ok (.if_icmp .ne 17, 3) := by decide +kernel
theorem dX5_save_17 : decode cX5_save 17 = .ok (.aload_n 0, 1) := by decide +kernel
theorem dX5_save_18 : decode cX5_save 18 = .ok (.iload_n 1, 1) := by decide +kernel
theorem dX5_save_19 : decode cX5_save 19 = .ok (.iconst 1, 1) := by decide +kernel
theorem dX5_save_20 : decode cX5_save 20 = .ok (.iadd, 1) := by decide +kernel
theorem dX5_save_21 : decode cX5_save 21 = .ok (.iload_n 1, 1) := by decide +kernel
theorem dX5_save_22 : decode cX5_save 22 = .ok (.invokevirtual 140, 3) := by decide +kernel
theorem dX5_save_25 : decode cX5_save 25 = .ok (.iinc 1 1, 3) := by decide +kernel
theorem dX5_save_28 : decode cX5_save 28 = .ok (.goto (-26), 3) := by decide +kernel
theorem dX5_save_31 : decode cX5_save 31 = .ok (.aload_n 0, 1) := by decide +kernel
theorem dX5_save_32 : decode cX5_save 32 = .ok (.dup, 1) := by decide +kernel
theorem dX5_save_33 : decode cX5_save 33 = .ok (.getfield 137, 3) := by decide +kernel
theorem dX5_save_36 : decode cX5_save 36 = .ok (.aload_n 0, 1) := by decide +kernel
theorem dX5_save_37 : decode cX5_save 37 = .ok (.getfield 137, 3) := by decide +kernel
theorem dX5_save_40 : decode cX5_save 40 = .ok (.bipush 6, 2) := by decide +kernel
theorem dX5_save_42 : decode cX5_save 42 = .ok (.if_icmp .ge 7, 3) := by decide +kernel
theorem dX5_save_45 : decode cX5_save 45 = .ok (.iconst 1, 1) := by decide +kernel
theorem dX5_save_46 : decode cX5_save 46 = .ok (.goto 4, 3) := by decide +kernel
theorem dX5_save_49 : decode cX5_save 49 = .ok (.iconst 0, 1) := by decide +kernel
theorem dX5_save_50 : decode cX5_save 50 = .ok (.iadd, 1) := by decide +kernel
theorem dX5_save_51 : decode cX5_save 51 = .ok (.putfield 137, 3) := by decide +kernel
theorem dX5_save_54 : decode cX5_save 54 = .ok (.aload_n 0, 1) := by decide +kernel
theorem dX5_save_55 : decode cX5_save 55 = .ok (.iconst 0, 1) := by decide +kernel
theorem dX5_save_56 : decode cX5_save 56 = .ok (.aload_n 0, 1) := by decide +kernel
theorem dX5_save_57 : decode cX5_save 57 = .ok (.getfield 137, 3) := by decide +kernel
theorem dX5_save_60 : decode cX5_save 60 = .ok (.invokevirtual 140, 3) := by decide +kernel
theorem dX5_save_63 : decode cX5_save 63 = .ok (.return_, 1) := by decide +kernel
theorem dX5_append_0 : decode cX5_append 0 = .ok (.aload_n 0, 1) := by decide +kernel
theorem dX5_append_1 : decode cX5_append 1 = .ok (.iload_n 1, 1) := by decide +kernel
theorem dX5_append_2 : decode cX5_append 2 = .ok (.iconst 0, 1) := by decide +kernel
theorem dX5_append_3 : decode cX5_append 3 = .ok (.sipush 255, 3) := by decide +kernel
theorem dX5_append_6 : decode cX5_append 6 = .ok (.invokestatic 78, 3) := by decide +kernel
theorem dX5_append_9 : decode cX5_append 9 = .ok (.ifCond .ne 7, 3) := by decide +kernel
theorem dX5_append_12 : decode cX5_append 12 = .ok (.iconst 1, 1) := by decide +kernel
theorem dX5_append_13 : decode cX5_append 13 = .ok (.goto 17, 3) := by decide +kernel
theorem dX5_append_16 : decode cX5_append 16 = .ok (.aload_n 0, 1) := by decide +kernel
theorem dX5_append_17 : decode cX5_append 17 = .ok (.getfield 143, 3) := by decide +kernel
theorem dX5_append_20 : decode cX5_append 20 = .ok (.bipush 60, 2) := by decide +kernel
theorem dX5_append_22 : decode cX5_append 22 = .ok (.if_icmp .ne 7, 3) := by decide +kernel
theorem dX5_append_25 : decode cX5_append 25 = .ok (.iconst 2, 1) := by decide +kernel
theorem dX5_append_26 : decode cX5_append 26 = .ok (.goto 4, 3) := by decide +kernel
theorem dX5_append_29 : decode cX5_append 29 = .ok (.iconst 0, 1) := by decide +kernel
theorem dX5_append_30 : decode cX5_append 30 = .ok (.invokevirtual 146, 3) := by decide +kernel
theorem dX5_append_33 : decode cX5_append 33 = .ok (.ifCond .ne 5, 3) := by decide +kernel
theorem dX5_append_36 : decode cX5_append 36 = .ok (.iconst 0, 1) := by decide +kernel
theorem dX5_append_37 : decode cX5_append 37 = .ok (.ireturn, 1) := by decide +kernel
theorem dX5_append_38 : decode cX5_append 38 = .ok (.aload_n 0, 1) := by decide +kernel
theorem dX5_append_39 : decode cX5_append 39 = .ok (.getfield 13, 3) := by decide +kernel
theorem dX5_append_42 : decode cX5_append 42 = .ok (.aload_n 0, 1) := by decide +kernel
theorem dX5_append_43 : decode cX5_append 43 = .ok (.getfield 143, 3) := by decide +kernel
theorem dX5_append_46 : decode cX5_append 46 = .ok (.iload_n 1, 1) := by decide +kernel
theorem dX5_append_47 : decode cX5_append 47 = .ok (.iastore, 1) := by decide +kernel
theorem dX5_append_48 : decode cX5_append 48 = .ok (.aload_n 0, 1) := by decide +kernel
theorem dX5_append_49 : decode cX5_append 49 = .ok (.dup, 1) := by decide +kernel
theorem dX5_append_50 : decode cX5_append 50 = .ok (.getfield 143, 3) := by decide +kernel
theorem dX5_append_53 : decode cX5_append 53 = .ok (.iconst 1, 1) := by decide +kernel
theorem dX5_append_54 : decode cX5_append 54 = .ok (.iadd, 1) := by decide +kernel
theorem dX5_append_55 : decode cX5_append 55 = .ok (.putfield 143, 3) := by decide +kernel
theorem dX5_append_58 : decode cX5_append 58 = .ok (.aload_n 0, 1) := by decide +kernel
theorem dX5_append_59 : decode cX5_append 59 = .ok (.getfield 143, 3) := by decide +kernel
theorem dX5_append_62 : decode cX5_append 62 = .ok (.ireturn, 1) := by decide +kernel
theorem dX5_fill_0 : decode cX5_fill 0 = .ok (.aload_n 0, 1) := by decide +kernel
theorem dX5_fill_1 : decode cX5_fill 1 = .ok (.iload_n 1, 1) := by decide +kernel
theorem dX5_fill_2 : decode cX5_fill 2 = .ok (.iconst 1, 1) := by decide +kernel
theorem dX5_fill_3 : decode cX5_fill 3 = .ok (.bipush 60, 2) := by decide +kernel
theorem dX5_fill_5 : decode cX5_fill 5 = .ok (.invokestatic 78, 3) := by decide +kernel
theorem dX5_fill_8 : decode cX5_fill 8 = .ok (.ifCond .eq 14, 3) := by decide +kernel
theorem dX5_fill_11 : decode cX5_fill 11 = .ok (.iload_n 2, 1) := by decide +kernel
theorem dX5_fill_12 : decode cX5_fill 12 = .ok (.iconst 0, 1) := by decide +kernel
theorem dX5_fill_13 : decode cX5_fill 13 = .ok (.sipush 255, 3) := by decide +kernel
theorem dX5_fill_16 : decode cX5_fill 16 = .ok (.invokestatic 78, 3) := by decide +kernel
theorem dX5_fill_19 : decode cX5_fill 19 = .ok (.ifCond .ne 7, 3) := by decide +kernel
theorem dX5_fill_22 : decode cX5_fill 22 = .ok (.iconst 1, 1) := by decide +kernel
theorem dX5_fill_23 : decode cX5_fill 23 = .ok (.goto 19, 3) := by decide +kernel
theorem dX5_fill_26 : decode cX5_fill 26 = .ok (.aload_n 0, 1) := by decide +kernel
theorem dX5_fill_27 : decode cX5_fill 27 = .ok (.getfield 143, 3) := by decide +kernel
theorem dX5_fill_30 : decode cX5_fill 30 = .ok (.iload_n 1, 1) := by decide +kernel
theorem dX5_fill_31 : decode cX5_fill 31 = .ok (.iadd, 1) := by decide +kernel
theorem dX5_fill_32 : decode cX5_fill 32 = .ok (.bipush 60, 2) := by decide +kernel
theorem dX5_fill_34 : decode cX5_fill 34 = .ok (.if_icmp .le 7, 3) := by decide +kernel
theorem dX5_fill_37 : decode cX5_fill 37 = .ok (.iconst 2, 1) := by decide +kernel
theorem dX5_fill_38 : decode cX5_fill 38 = .ok (.goto 4, 3) := by decide +kernel
theorem dX5_fill_41 : decode cX5_fill 41 = .ok (.iconst 0, 1) := by decide +kernel
theorem dX5_fill_42 : decode cX5_fill 42 = .ok (.invokevirtual 146, 3) := by decide +kernel
theorem dX5_fill_45 : decode cX5_fill 45 = .ok (.ifCond .ne 5, 3) := by decide +kernel
theorem dX5_fill_48 : decode cX5_fill 48 = .ok (.iconst 0, 1) := by decide +kernel
theorem dX5_fill_49 : decode cX5_fill 49 = .ok (.ireturn, 1) := by decide +kernel
theorem dX5_fill_50 : decode cX5_fill 50 = .ok (.iconst 0, 1) := by decide +kernel
theorem dX5_fill_51 : decode cX5_fill 51 = .ok (.istore_n 3, 1) := by decide +kernel
theorem dX5_fill_52 : decode cX5_fill 52 = .ok (.iload_n 3, 1) := by decide +kernel
theorem dX5_fill_53 : decode cX5_fill 53 = .ok (.iload_n 1, 1) := by decide +kernel
theorem dX5_fill_54 : decode cX5_fill 54 = .ok (.if_icmp .ge 29, 3) := by decide +kernel
theorem dX5_fill_57 : decode cX5_fill 57 = .ok (.aload_n 0, 1) := by decide +kernel
theorem dX5_fill_58 : decode cX5_fill 58 = .ok (.getfield 13, 3) := by decide +kernel
theorem dX5_fill_61 : decode cX5_fill 61 = .ok (.aload_n 0, 1) := by decide +kernel
theorem dX5_fill_62 : decode cX5_fill 62 = .ok (.getfield 143, 3) := by decide +kernel
theorem dX5_fill_65 : decode cX5_fill 65 = .ok (.iload_n 2, 1) := by decide +kernel
theorem dX5_fill_66 : decode cX5_fill 66 = .ok (.iastore, 1) := by decide +kernel
theorem dX5_fill_67 : decode cX5_fill 67 = .ok (.aload_n 0, 1) := by decide +kernel
theorem dX5_fill_68 : decode cX5_fill 68 = .ok (.dup, 1) := by decide +kernel
theorem dX5_fill_69 : decode cX5_fill 69 = .ok (.getfield 143, 3) := by decide +kernel
theorem dX5_fill_72 : decode cX5_fill 72 = .ok (.iconst 1, 1) := by decide +kernel
theorem dX5_fill_73 : decode cX5_fill 73 = .ok (.iadd, 1) := by decide +kernel
theorem dX5_fill_74 : decode cX5_fill 74 = .ok (.putfield 143, 3) := by decide +kernel
theorem dX5_fill_77 : decode cX5_fill 77 = .ok (.iinc 3 1, 3) := by decide +kernel
theorem dX5_fill_80 : decode cX5_fill 80 = .ok (.goto (-28), 3) := by decide +kernel
theorem dX5_fill_83 : decode cX5_fill 83 = .ok (.aload_n 0, 1) := by decide +kernel
theorem dX5_fill_84 : decode cX5_fill 84 = .ok (.getfield 143, 3) := by decide +kernel
theorem dX5_fill_87 : decode cX5_fill 87 = .ok (.ireturn, 1) := by decide +kernel
theorem dX5_clearBuffer_0 : decode cX5_clearBuffer 0 = .ok (.aload_n 0, 1) := by decide +kernel
theorem dX5_clearBuffer_1 : decode cX5_clearBuffer 1 = .ok (.iconst 0, 1) := by decide +kernel
theorem dX5_clearBuffer_2 : decode cX5_clearBuffer 2 = .ok (.putfield 22, 3) := by decide +kernel
theorem dX5_clearBuffer_5 : decode cX5_clearBuffer 5 = .ok (.aload_n 0, 1) := by decide +kernel
theorem dX5_clearBuffer_6 : decode cX5_clearBuffer 6 = .ok (.getfield 143, 3) := by decide +kernel
theorem dX5_clearBuffer_9 : decode cX5_clearBuffer 9 = .ok (.istore_n 1, 1) := by decide +kernel
theorem dX5_clearBuffer_10 : decode cX5_clearBuffer 10 = .ok (.aload_n 0, 1) := by decide +kernel
theorem dX5_clearBuffer_11 : decode cX5_clearBuffer 11 = .ok (.iconst 0, 1) := by decide +kernel
theorem dX5_clearBuffer_12 : decode cX5_clearBuffer 12 = .ok (.putfield 143, 3) := by decide +kernel
theorem dX5_clearBuffer_15 : decode cX5_clearBuffer 15 = .ok (.iload_n 1, 1) := by decide +kernel
theorem dX5_clearBuffer_16 : decode cX5_clearBuffer 16 = .ok (.ireturn, 1) := by decide +kernel
theorem dX5_insert_0 : decode cX5_insert 0 = .ok (.aload_n 0, 1) := by decide +kernel
theorem dX5_insert_1 : decode cX5_insert 1 = .ok (.aload_n 0, 1) := by decide +kernel
theorem dX5_insert_2 : decode cX5_insert 2 = .ok (.aload_n 0, 1) := by decide +kernel
theorem dX5_insert_3 : decode cX5_insert 3 = .ok (.getfield 143, 3) := by decide +kernel
theorem dX5_insert_6 : decode cX5_insert 6 = .ok (.invokestatic 91, 3) := by decide +kernel
theorem dX5_insert_9 : decode cX5_insert 9 = .ok (.iconst (-1), 1) := by decide +kernel
theorem dX5_insert_10 : decode cX5_insert 10 = .ok (.iconst (-1), 1) := by decide +kernel
theorem dX5_insert_11 : decode cX5_insert 11 = .ok (.invokevirtual 94, 3) := by decide +kernel
theorem dX5_insert_14 : decode cX5_insert 14 = .ok (.iconst (-1), 1) := by decide +kernel
theorem dX5_insert_15 : decode cX5_insert 15 = .ok (.if_icmp .ne 7, 3) := by decide +kernel
theorem dX5_insert_18 : decode cX5_insert 18 = .ok (.iconst 1, 1) := by decide +kernel
theorem dX5_insert_19 : decode cX5_insert 19 = .ok (.goto 4, 3) := by decide +kernel
theorem dX5_insert_22 : decode cX5_insert 22 = .ok (.iconst 0, 1) := by decide +kernel
theorem dX5_insert_23 : decode cX5_insert 23 = .ok (.invokevirtual 146, 3) := by decide +kernel
theorem dX5_insert_26 : decode cX5_insert 26 = .ok (.ifCond .ne 5, 3) := by decide +kernel
theorem dX5_insert_29 : decode cX5_insert 29 = .ok (.iconst 0, 1) := by decide +kernel
theorem dX5_insert_30 : decode cX5_insert 30 = .ok (.ireturn, 1) := by decide +kernel
theorem dX5_insert_31 : decode cX5_insert 31 = .ok (.aload_n 0, 1) := by decide +kernel
theorem dX5_insert_32 : decode cX5_insert 32 = .ok (.invokevirtual 150, 3) := by decide +kernel
theorem dX5_insert_35 : decode cX5_insert 35 = .ok (.aload_n 0, 1) := by decide +kernel
theorem dX5_insert_36 : decode cX5_insert 36 = .ok (.iconst 0, 1) := by decide +kernel
theorem dX5_insert_37 : decode cX5_insert 37 = .ok (.aload_n 0, 1) := by decide +kernel
theorem dX5_insert_38 : decode cX5_insert 38 = .ok (.getfield 143, 3) := by decide +kernel
theorem dX5_insert_41 : decode cX5_insert 41 = .ok (.invokevirtual 153, 3) := by decide +kernel
theorem dX5_insert_44 : decode cX5_insert 44 = .ok (.aload_n 0, 1) := by decide +kernel
theorem dX5_insert_45 : decode cX5_insert 45 = .ok (.iconst 0, 1) := by decide +kernel
theorem dX5_insert_46 : decode cX5_insert 46 = .ok (.putfield 143, 3) := by decide +kernel
theorem dX5_insert_49 : decode cX5_insert 49 = .ok (.aload_n 0, 1) := by decide +kernel
theorem dX5_insert_50 : decode cX5_insert 50 = .ok (.invokevirtual 156, 3) := by decide +kernel
theorem dX5_insert_53 : decode cX5_insert 53 = .ok (.ireturn, 1) := by decide +kernel
theorem dX5_update_0 : decode cX5_update 0 = .ok (.aload_n 0, 1) := by decide +kernel
theorem dX5_update_1 : decode cX5_update 1 = .ok (.iload_n 1, 1) := by decide +kernel
theorem dX5_update_2 : decode cX5_update 2 = .ok (.invokevirtual 160, 3) := by decide +kernel
theorem dX5_update_5 : decode cX5_update 5 = .ok (.istore_n 2, 1) := by decide +kernel
theorem dX5_update_6 : decode cX5_update 6 = .ok (.aload_n 0, 1) := by decide +kernel
theorem dX5_update_7 : decode cX5_update 7 = .ok (.iload_n 2, 1) := by decide +kernel
theorem dX5_update_8 : decode cX5_update 8 = .ok (.ifCond .ne 7, 3) := by decide +kernel
theorem dX5_update_11 : decode cX5_update 11 = .ok (.iconst 1, 1) := by decide +kernel
theorem dX5_update_12 : decode cX5_update 12 = .ok (.goto 21, 3) := by decide +kernel
theorem dX5_update_15 : decode cX5_update 15 = .ok (.aload_n 0, 1) := by decide +kernel
theorem dX5_update_16 : decode cX5_update 16 = .ok (.iload_n 1, 1) := by decide +kernel
theorem dX5_update_17 : decode cX5_update 17 = .ok (.aload_n 0, 1) := by decide +kernel
theorem dX5_update_18 : decode cX5_update 18 = .ok (.getfield 143, 3) := by decide +kernel
theorem dX5_update_21 : decode cX5_update 21 = .ok (.invokevirtual 119, 3) := by decide +kernel
theorem dX5_update_24 : decode cX5_update 24 = .ok (.iconst (-1), 1) := by decide +kernel
theorem dX5_update_25 : decode cX5_update 25 = .ok (.if_icmp .ne 7, 3) := by decide +kernel
theorem dX5_update_28 : decode cX5_update 28 = .ok (.iconst 2, 1) := by decide +kernel
theorem dX5_update_29 : decode cX5_update 29 = .ok (.goto 4, 3) := by decide +kernel
theorem dX5_update_32 : decode cX5_update 32 = .ok (.iconst 0, 1) := by decide +kernel
theorem dX5_update_33 : decode cX5_update 33 = .ok (.invokevirtual 146, 3) := by decide +kernel
theorem dX5_update_36 : decode cX5_update 36 = .ok (.ifCond .ne 5, 3) := by decide +kernel
theorem dX5_update_39 : decode cX5_update 39 = .ok (.iconst 0, 1) := by decide +kernel
theorem dX5_update_40 : decode cX5_update 40 = .ok (.ireturn, 1) := by decide +kernel
theorem dX5_update_41 : decode cX5_update 41 = .ok (.aload_n 0, 1) := by decide +kernel
theorem dX5_update_42 : decode cX5_update 42 = .ok (.invokevirtual 150, 3) := by decide +kernel
theorem dX5_update_45 : decode cX5_update 45 = .ok (.aload_n 0, 1) := by decide +kernel
theorem dX5_update_46 : decode cX5_update 46 = .ok (.iconst 0, 1) := by decide +kernel
theorem dX5_update_47 : decode cX5_update 47 = .ok (.aload_n 0, 1) := by decide +kernel
theorem dX5_update_48 : decode cX5_update 48 = .ok (.getfield 143, 3) := by decide +kernel
theorem dX5_update_51 : decode cX5_update 51 = .ok (.invokevirtual 153, 3) := by decide +kernel
theorem dX5_update_54 : decode cX5_update 54 = .ok (.aload_n 0, 1) := by decide +kernel
theorem dX5_update_55 : decode cX5_update 55 = .ok (.iconst 0, 1) := by decide +kernel
theorem dX5_update_56 : decode cX5_update 56 = .ok (.putfield 143, 3) := by decide +kernel
theorem dX5_update_59 : decode cX5_update 59 = .ok (.aload_n 0, 1) := by decide +kernel
theorem dX5_update_60 : decode cX5_update 60 = .ok (.iload_n 1, 1) := by decide +kernel
theorem dX5_update_61 : decode cX5_update 61 = .ok (.invokevirtual 163, 3) := by decide +kernel
theorem dX5_update_64 : decode cX5_update 64 = .ok (.ireturn, 1) := by decide +kernel
theorem dX5_delete_0 : decode cX5_delete 0 = .ok (.aload_n 0, 1) := by decide +kernel
theorem dX5_delete_1 : decode cX5_delete 1 = .ok (.aload_n 0, 1) := by decide +kernel
theorem dX5_delete_2 : decode cX5_delete 2 = .ok (.iload_n 1, 1) := by decide +kernel
theorem dX5_delete_3 : decode cX5_delete 3 = .ok (.invokevirtual 160, 3) := by decide +kernel
theorem dX5_delete_6 : decode cX5_delete 6 = .ok (.ifCond .eq 7, 3) := by decide +kernel
theorem dX5_delete_9 : decode cX5_delete 9 = .ok (.iconst 0, 1) := by decide +kernel
theorem dX5_delete_10 : decode cX5_delete 10 = .ok (.goto 4, 3) := by decide +kernel
theorem dX5_delete_13 : decode cX5_delete 13 = .ok (.iconst 1, 1) := by decide +kernel
theorem dX5_delete_14 : decode cX5_delete 14 = .ok (.invokevirtual 146, 3) := by decide +kernel
theorem dX5_delete_17 : decode cX5_delete 17 = .ok (.ifCond .ne 5, 3) := by decide +kernel
theorem dX5_delete_20 : decode cX5_delete 20 = .ok (.iconst 0, 1) := by decide +kernel
theorem dX5_delete_21 : decode cX5_delete 21 = .ok (.ireturn, 1) := by decide +kernel
theorem dX5_delete_22 : decode cX5_delete 22 = .ok (.aload_n 0, 1) := by decide +kernel
theorem dX5_delete_23 : decode cX5_delete 23 = .ok (.invokevirtual 150, 3) := by decide +kernel
theorem dX5_delete_26 : decode cX5_delete 26 = .ok (.aload_n 0, 1) := by decide +kernel
theorem dX5_delete_27 : decode cX5_delete 27 = .ok (.iload_n 1, 1) := by decide +kernel
theorem dX5_delete_28 : decode cX5_delete 28 = .ok (.invokevirtual 166, 3) := by decide +kernel
theorem dX5_delete_31 : decode cX5_delete 31 = .ok (.ireturn, 1) := by decide +kernel
theorem dX5_bringHome_0 : decode cX5_bringHome 0 = .ok (.aload_n 0, 1) := by decide +kernel
theorem dX5_bringHome_1 : decode cX5_bringHome 1 = .ok (.iconst 0, 1) := by decide +kernel
theorem dX5_bringHome_2 : decode cX5_bringHome 2 = .ok (.putfield 22, 3) := by decide +kernel
theorem dX5_bringHome_5 : decode cX5_bringHome 5 = .ok (.aload_n 0, 1) := by decide +kernel
theorem dX5_bringHome_6 : decode cX5_bringHome 6 = .ok (.invokevirtual 150, 3) := by decide +kernel
theorem dX5_bringHome_9 : decode cX5_bringHome 9 = .ok (.aload_n 0, 1) := by decide +kernel
theorem dX5_bringHome_10 : decode cX5_bringHome 10 = .ok (.invokevirtual 169, 3) := by decide +kernel
theorem dX5_bringHome_13 : decode cX5_bringHome 13 = .ok (.ireturn, 1) := by decide +kernel
theorem dX5_isPage_0 : decode cX5_isPage 0 = .ok (.iload_n 1, 1) := by decide +kernel
theorem dX5_isPage_1 : decode cX5_isPage 1 = .ok (.iconst 0, 1) := by decide +kernel
theorem dX5_isPage_2 : decode cX5_isPage 2 = .ok (.aload_n 0, 1) := by decide +kernel
theorem dX5_isPage_3 : decode cX5_isPage 3 = .ok (.getfield 7, 3) := by decide +kernel
theorem dX5_isPage_6 : decode cX5_isPage 6 = .ok (.iconst 0, 1) := by decide +kernel
theorem dX5_isPage_7 : decode cX5_isPage 7 = .ok (.iaload, 1) := by decide +kernel
theorem dX5_isPage_8 : decode cX5_isPage 8 = .ok (.iconst 1, 1) := by decide +kernel
theorem dX5_isPage_9 : decode cX5_isPage 9 = .ok (.isub, 1) := by decide +kernel
theorem dX5_isPage_10 : decode cX5_isPage 10 = .ok (.invokestatic 78, 3) := by decide +kernel
theorem dX5_isPage_13 : decode cX5_isPage 13 = .ok (.ireturn, 1) := by decide +kernel
theorem dX5_compact_0 : decode cX5_compact 0 = .ok (.aload_n 0, 1) := by decide +kernel
theorem dX5_compact_1 : decode cX5_compact 1 = .ok (.aload_n 0, 1) := by decide +kernel
theorem dX5_compact_2 : decode cX5_compact 2 = .ok (.iload_n 1, 1) := by decide +kernel
theorem dX5_compact_3 : decode cX5_compact 3 = .ok (.invokevirtual 172, 3) := by decide +kernel
theorem dX5_compact_6 : decode cX5_compact 6 = .ok (.ifCond .eq 7, 3) := by decide +kernel
theorem dX5_compact_9 : decode cX5_compact 9 = .ok (.iconst 0, 1) := by decide +kernel
theorem dX5_compact_10 : decode cX5_compact 10 = .ok (.goto 4, 3) := by decide +kernel
theorem dX5_compact_13 : decode cX5_compact 13 = .ok (.iconst 1, 1) := by decide +kernel
theorem dX5_compact_14 : decode cX5_compact 14 = .ok (.invokevirtual 146, 3) := by decide +kernel
theorem dX5_compact_17 : decode cX5_compact 17 = .ok (.ifCond .ne 5, 3) := by decide +kernel
theorem dX5_compact_20 : decode cX5_compact 20 = .ok (.iconst 0, 1) := by decide +kernel
theorem dX5_compact_21 : decode cX5_compact 21 = .ok (.ireturn, 1) := by decide +kernel
theorem dX5_compact_22 : decode cX5_compact 22 = .ok (.aload_n 0, 1) := by decide +kernel
theorem dX5_compact_23 : decode cX5_compact 23 = .ok (.invokevirtual 150, 3) := by decide +kernel
theorem dX5_compact_26 : decode cX5_compact 26 = .ok (.aload_n 0, 1) := by decide +kernel
theorem dX5_compact_27 : decode cX5_compact 27 = .ok (.iload_n 1, 1) := by decide +kernel
theorem dX5_compact_28 : decode cX5_compact 28 = .ok (.invokevirtual 65, 3) := by decide +kernel
theorem dX5_compact_31 : decode cX5_compact 31 = .ok (.ireturn, 1) := by decide +kernel
theorem dX5_counted_0 : decode cX5_counted 0 = .ok (.iconst 0, 1) := by decide +kernel
theorem dX5_counted_1 : decode cX5_counted 1 = .ok (.istore_n 3, 1) := by decide +kernel
theorem dX5_counted_2 : decode cX5_counted 2 = .ok (.iconst 0, 1) := by decide +kernel
theorem dX5_counted_3 : decode cX5_counted 3 = .ok (.istore 4, 2) := by decide +kernel
theorem dX5_counted_5 : decode cX5_counted 5 = .ok (.iload 4, 2) := by decide +kernel
theorem dX5_counted_7 : decode cX5_counted 7 = .ok (.bipush 100, 2) := by decide +kernel
theorem dX5_counted_9 : decode cX5_counted 9 = .ok (.aload_n 0, 1) := by decide +kernel
theorem dX5_counted_10 : decode cX5_counted 10 = .ok (.getfield 7, 3) := by decide +kernel
theorem dX5_counted_13 : decode cX5_counted 13 = .ok (.iconst 0, 1) := by decide +kernel
theorem dX5_counted_14 : decode cX5_counted 14 = .ok (.iaload, 1) := by decide +kernel
theorem dX5_counted_15 : decode cX5_counted 15 = .ok (.imul, 1) := by decide +kernel
theorem dX5_counted_16 : decode cX5_counted 16 = .ok (.if_icmp .ge 37, 3) := by decide +kernel
theorem dX5_counted_19 : decode cX5_counted 19 = .ok (.iload_n 3, 1) := by decide +kernel
theorem dX5_counted_20 : decode cX5_counted 20 = .ok (.aload_n 0, 1) := by decide +kernel
theorem dX5_counted_21 : decode cX5_counted 21 = .ok (.iload 4, 2) := by decide +kernel
theorem dX5_counted_23 : decode cX5_counted 23 = .ok (.invokevirtual 75, 3) := by decide +kernel
theorem dX5_counted_26 : decode cX5_counted 26 = .ok (.iload_n 1, 1) := by decide +kernel
theorem dX5_counted_27 : decode cX5_counted 27 = .ok (.if_icmp .eq 13, 3) := by decide +kernel
theorem dX5_counted_30 : decode cX5_counted 30 = .ok (.aload_n 0, 1) := by decide +kernel
theorem dX5_counted_31 : decode cX5_counted 31 = .ok (.iload 4, 2) := by decide +kernel
theorem dX5_counted_33 : decode cX5_counted 33 = .ok (.invokevirtual 75, 3) := by decide +kernel
theorem dX5_counted_36 : decode cX5_counted 36 = .ok (.iload_n 2, 1) := by decide +kernel
theorem dX5_counted_37 : decode cX5_counted 37 = .ok (.if_icmp .ne 7, 3) := by decide +kernel
theorem dX5_counted_40 : decode cX5_counted 40 = .ok (.iconst 1, 1) := by decide +kernel
theorem dX5_counted_41 : decode cX5_counted 41 = .ok (.goto 4, 3) := by decide +kernel
theorem dX5_counted_44 : decode cX5_counted 44 = .ok (.iconst 0, 1) := by decide +kernel
theorem dX5_counted_45 : decode cX5_counted 45 = .ok (.iadd, 1) := by decide +kernel
theorem dX5_counted_46 : decode cX5_counted 46 = .ok (.istore_n 3, 1) := by decide +kernel
theorem dX5_counted_47 : decode cX5_counted 47 = .ok (.iinc 4 1, 3) := by decide +kernel
theorem dX5_counted_50 : decode cX5_counted 50 = .ok (.goto (-45), 3) := by decide +kernel
theorem dX5_counted_53 : decode cX5_counted 53 = .ok (.iload_n 3, 1) := by decide +kernel
theorem dX5_counted_54 : decode cX5_counted 54 = .ok (.ireturn, 1) := by decide +kernel
theorem dX5_rows_0 : decode cX5_rows 0 = .ok (.aload_n 0, 1) := by decide +kernel
theorem dX5_rows_1 : decode cX5_rows 1 = .ok (.iconst 0, 1) := by decide +kernel
theorem dX5_rows_2 : decode cX5_rows 2 = .ok (.putfield 22, 3) := by decide +kernel
theorem dX5_rows_5 : decode cX5_rows 5 = .ok (.aload_n 0, 1) := by decide +kernel
theorem dX5_rows_6 : decode cX5_rows 6 = .ok (.iconst 1, 1) := by decide +kernel
theorem dX5_rows_7 : decode cX5_rows 7 = .ok (.iconst 2, 1) := by decide +kernel
theorem dX5_rows_8 : decode cX5_rows 8 = .ok (.invokevirtual 175, 3) := by decide +kernel
theorem dX5_rows_11 : decode cX5_rows 11 = .ok (.ireturn, 1) := by decide +kernel
theorem dX5_isRow_0 : decode cX5_isRow 0 = .ok (.aload_n 0, 1) := by decide +kernel
theorem dX5_isRow_1 : decode cX5_isRow 1 = .ok (.iconst 0, 1) := by decide +kernel
theorem dX5_isRow_2 : decode cX5_isRow 2 = .ok (.putfield 22, 3) := by decide +kernel
theorem dX5_isRow_5 : decode cX5_isRow 5 = .ok (.aload_n 0, 1) := by decide +kernel
theorem dX5_isRow_6 : decode cX5_isRow 6 = .ok (.iload_n 1, 1) := by decide +kernel
theorem dX5_isRow_7 : decode cX5_isRow 7 = .ok (.invokevirtual 160, 3) := by decide +kernel
theorem dX5_isRow_10 : decode cX5_isRow 10 = .ok (.ireturn, 1) := by decide +kernel
theorem dX5_length_0 : decode cX5_length 0 = .ok (.aload_n 0, 1) := by decide +kernel
theorem dX5_length_1 : decode cX5_length 1 = .ok (.aload_n 0, 1) := by decide +kernel
theorem dX5_length_2 : decode cX5_length 2 = .ok (.iload_n 1, 1) := by decide +kernel
theorem dX5_length_3 : decode cX5_length 3 = .ok (.invokevirtual 160, 3) := by decide +kernel
theorem dX5_length_6 : decode cX5_length 6 = .ok (.ifCond .eq 7, 3) := by decide +kernel
theorem dX5_length_9 : decode cX5_length 9 = .ok (.iconst 0, 1) := by decide +kernel
theorem dX5_length_10 : decode cX5_length 10 = .ok (.goto 4, 3) := by decide +kernel
theorem dX5_length_13 : decode cX5_length 13 = .ok (.iconst 1, 1) := by decide +kernel
theorem dX5_length_14 : decode cX5_length 14 = .ok (.invokevirtual 146, 3) := by decide +kernel
theorem dX5_length_17 : decode cX5_length 17 = .ok (.ifCond .eq 11, 3) := by decide +kernel
theorem dX5_length_20 : decode cX5_length 20 = .ok (.aload_n 0, 1) := by decide +kernel
theorem dX5_length_21 : decode cX5_length 21 = .ok (.iload_n 1, 1) := by decide +kernel
theorem dX5_length_22 : decode cX5_length 22 = .ok (.invokevirtual 128, 3) := by decide +kernel
theorem dX5_length_25 : decode cX5_length 25 = .ok (.goto 4, 3) := by decide +kernel
theorem dX5_length_28 : decode cX5_length 28 = .ok (.iconst 0, 1) := by decide +kernel
theorem dX5_length_29 : decode cX5_length 29 = .ok (.ireturn, 1) := by decide +kernel
theorem dX5_byteOf_0 : decode cX5_byteOf 0 = .ok (.aload_n 0, 1) := by decide +kernel
theorem dX5_byteOf_1 : decode cX5_byteOf 1 = .ok (.iload_n 1, 1) := by decide +kernel
theorem dX5_byteOf_2 : decode cX5_byteOf 2 = .ok (.invokevirtual 160, 3) := by decide +kernel
theorem dX5_byteOf_5 : decode cX5_byteOf 5 = .ok (.istore_n 3, 1) := by decide +kernel
theorem dX5_byteOf_6 : decode cX5_byteOf 6 = .ok (.aload_n 0, 1) := by decide +kernel
theorem dX5_byteOf_7 : decode cX5_byteOf 7 = .ok (.iload_n 3, 1) := by decide +kernel
theorem dX5_byteOf_8 : decode cX5_byteOf 8 = .ok (.ifCond .eq 22, 3) := by decide +kernel
theorem dX5_byteOf_11 : decode cX5_byteOf 11 = .ok (.iload_n 2, 1) := by decide +kernel
theorem dX5_byteOf_12 : decode cX5_byteOf 12 = .ok (.iconst 0, 1) := by decide +kernel
theorem dX5_byteOf_13 : decode cX5_byteOf 13 = .ok (.aload_n 0, 1) := by decide +kernel
theorem dX5_byteOf_14 : decode cX5_byteOf 14 = .ok (.iload_n 1, 1) := by decide +kernel
theorem dX5_byteOf_15 : decode cX5_byteOf 15 = .ok (.invokevirtual 128, 3) := by decide +kernel
theorem dX5_byteOf_18 : decode cX5_byteOf 18 = .ok (.iconst 1, 1) := by decide +kernel
theorem dX5_byteOf_19 : decode cX5_byteOf 19 = .ok (.isub, 1) := by decide +kernel
theorem dX5_byteOf_20 : decode cX5_byteOf 20 = .ok (.invokestatic 78, 3) := by decide +kernel
theorem dX5_byteOf_23 : decode cX5_byteOf 23 = .ok (.ifCond .eq 7, 3) := by decide +kernel
theorem dX5_byteOf_26 : decode cX5_byteOf 26 = .ok (.iconst 0, 1) := by decide +kernel
theorem dX5_byteOf_27 : decode cX5_byteOf 27 = .ok (.goto 4, 3) := by decide +kernel
theorem dX5_byteOf_30 : decode cX5_byteOf 30 = .ok (.iconst 1, 1) := by decide +kernel
theorem dX5_byteOf_31 : decode cX5_byteOf 31 = .ok (.invokevirtual 146, 3) := by decide +kernel
theorem dX5_byteOf_34 : decode cX5_byteOf 34 = .ok (.ifCond .eq 12, 3) := by decide +kernel
theorem dX5_byteOf_37 : decode cX5_byteOf 37 = .ok (.aload_n 0, 1) := by decide +kernel
theorem dX5_byteOf_38 : decode cX5_byteOf 38 = .ok (.iload_n 1, 1) := by decide +kernel
theorem dX5_byteOf_39 : decode cX5_byteOf 39 = .ok (.iload_n 2, 1) := by decide +kernel
theorem dX5_byteOf_40 : decode cX5_byteOf 40 = .ok (.invokevirtual 134, 3) := by decide +kernel
theorem dX5_byteOf_43 : decode cX5_byteOf 43 = .ok (.goto 4, 3) := by decide +kernel
theorem dX5_byteOf_46 : decode cX5_byteOf 46 = .ok (.iconst 0, 1) := by decide +kernel
theorem dX5_byteOf_47 : decode cX5_byteOf 47 = .ok (.ireturn, 1) := by decide +kernel
theorem dX5_placeOf_0 : decode cX5_placeOf 0 = .ok (.aload_n 0, 1) := by decide +kernel
theorem dX5_placeOf_1 : decode cX5_placeOf 1 = .ok (.aload_n 0, 1) := by decide +kernel
theorem dX5_placeOf_2 : decode cX5_placeOf 2 = .ok (.iload_n 1, 1) := by decide +kernel
theorem dX5_placeOf_3 : decode cX5_placeOf 3 = .ok (.invokevirtual 160, 3) := by decide +kernel
theorem dX5_placeOf_6 : decode cX5_placeOf 6 = .ok (.ifCond .eq 7, 3) := by decide +kernel
theorem dX5_placeOf_9 : decode cX5_placeOf 9 = .ok (.iconst 0, 1) := by decide +kernel
theorem dX5_placeOf_10 : decode cX5_placeOf 10 = .ok (.goto 4, 3) := by decide +kernel
theorem dX5_placeOf_13 : decode cX5_placeOf 13 = .ok (.iconst 1, 1) := by decide +kernel
theorem dX5_placeOf_14 : decode cX5_placeOf 14 = .ok (.invokevirtual 146, 3) := by decide +kernel
theorem dX5_placeOf_17 : decode cX5_placeOf 17 = .ok (.ifCond .eq 11, 3) := by decide +kernel
theorem dX5_placeOf_20 : decode cX5_placeOf 20 = .ok (.aload_n 0, 1) := by decide +kernel
theorem dX5_placeOf_21 : decode cX5_placeOf 21 = .ok (.iload_n 1, 1) := by decide +kernel
theorem dX5_placeOf_22 : decode cX5_placeOf 22 = .ok (.invokevirtual 82, 3) := by decide +kernel
theorem dX5_placeOf_25 : decode cX5_placeOf 25 = .ok (.goto 4, 3) := by decide +kernel
theorem dX5_placeOf_28 : decode cX5_placeOf 28 = .ok (.iconst 0, 1) := by decide +kernel
theorem dX5_placeOf_29 : decode cX5_placeOf 29 = .ok (.ireturn, 1) := by decide +kernel
theorem dX5_next_0 : decode cX5_next 0 = .ok (.aload_n 0, 1) := by decide +kernel
theorem dX5_next_1 : decode cX5_next 1 = .ok (.iconst 0, 1) := by decide +kernel
theorem dX5_next_2 : decode cX5_next 2 = .ok (.putfield 22, 3) := by decide +kernel
theorem dX5_next_5 : decode cX5_next 5 = .ok (.iload_n 1, 1) := by decide +kernel
theorem dX5_next_6 : decode cX5_next 6 = .ok (.ifCond .ge 7, 3) := by decide +kernel
theorem dX5_next_9 : decode cX5_next 9 = .ok (.iconst 0, 1) := by decide +kernel
theorem dX5_next_10 : decode cX5_next 10 = .ok (.goto 4, 3) := by decide +kernel
theorem dX5_next_13 : decode cX5_next 13 = .ok (.iload_n 1, 1) := by decide +kernel
theorem dX5_next_14 : decode cX5_next 14 = .ok (.istore_n 2, 1) := by decide +kernel
theorem dX5_next_15 : decode cX5_next 15 = .ok (.iload_n 2, 1) := by decide +kernel
theorem dX5_next_16 : decode cX5_next 16 = .ok (.bipush 100, 2) := by decide +kernel
theorem dX5_next_18 : decode cX5_next 18 = .ok (.aload_n 0, 1) := by decide +kernel
theorem dX5_next_19 : decode cX5_next 19 = .ok (.getfield 7, 3) := by decide +kernel
theorem dX5_next_22 : decode cX5_next 22 = .ok (.iconst 0, 1) := by decide +kernel
theorem dX5_next_23 : decode cX5_next 23 = .ok (.iaload, 1) := by decide +kernel
theorem dX5_next_24 : decode cX5_next 24 = .ok (.imul, 1) := by decide +kernel
theorem dX5_next_25 : decode cX5_next 25 = .ok (.if_icmp .ge 44, 3) := by decide +kernel
theorem dX5_next_28 : decode cX5_next 28 = .ok (.iload_n 2, 1) := by decide +kernel
theorem dX5_next_29 : decode cX5_next 29 = .ok (.iload_n 1, 1) := by decide +kernel
theorem dX5_next_30 : decode cX5_next 30 = .ok (.if_icmp .le 25, 3) := by decide +kernel
theorem dX5_next_33 : decode cX5_next 33 = .ok (.aload_n 0, 1) := by decide +kernel
theorem dX5_next_34 : decode cX5_next 34 = .ok (.iload_n 2, 1) := by decide +kernel
theorem dX5_next_35 : decode cX5_next 35 = .ok (.invokevirtual 75, 3) := by decide +kernel
theorem dX5_next_38 : decode cX5_next 38 = .ok (.iconst 1, 1) := by decide +kernel
theorem dX5_next_39 : decode cX5_next 39 = .ok (.if_icmp .eq 12, 3) := by decide +kernel
theorem dX5_next_42 : decode cX5_next 42 = .ok (.aload_n 0, 1) := by decide +kernel
theorem dX5_next_43 : decode cX5_next 43 = .ok (.iload_n 2, 1) := by decide +kernel
theorem dX5_next_44 : decode cX5_next 44 = .ok (.invokevirtual 75, 3) := by decide +kernel
theorem dX5_next_47 : decode cX5_next 47 = .ok (.iconst 3, 1) := by decide +kernel
theorem dX5_next_48 : decode cX5_next 48 = .ok (.if_icmp .ne 7, 3) := by decide +kernel
theorem dX5_next_51 : decode cX5_next 51 = .ok (.iconst 1, 1) := by decide +kernel
theorem dX5_next_52 : decode cX5_next 52 = .ok (.goto 4, 3) := by decide +kernel
theorem dX5_next_55 : decode cX5_next 55 = .ok (.iconst 0, 1) := by decide +kernel
theorem dX5_next_56 : decode cX5_next 56 = .ok (.istore_n 3, 1) := by decide +kernel
theorem dX5_next_57 : decode cX5_next 57 = .ok (.iload_n 3, 1) := by decide +kernel
theorem dX5_next_58 : decode cX5_next 58 = .ok (.ifCond .eq 5, 3) := by decide +kernel
theorem dX5_next_61 : decode cX5_next 61 = .ok (.iload_n 2, 1) := by decide +kernel
theorem dX5_next_62 : decode cX5_next 62 = .ok (.ireturn, 1) := by decide +kernel
theorem dX5_next_63 : decode cX5_next 63 = .ok (.iinc 2 1, 3) := by decide +kernel
theorem dX5_next_66 : decode cX5_next 66 = .ok (.goto (-51), 3) := by decide +kernel
theorem dX5_next_69 : decode cX5_next 69 = .ok (.iconst (-1), 1) := by decide +kernel
theorem dX5_next_70 : decode cX5_next 70 = .ok (.ireturn, 1) := by decide +kernel
theorem dX5_rowAt_0 : decode cX5_rowAt 0 = .ok (.aload_n 0, 1) := by decide +kernel
theorem dX5_rowAt_1 : decode cX5_rowAt 1 = .ok (.iconst 0, 1) := by decide +kernel
theorem dX5_rowAt_2 : decode cX5_rowAt 2 = .ok (.putfield 22, 3) := by decide +kernel
theorem dX5_rowAt_5 : decode cX5_rowAt 5 = .ok (.aload_n 0, 1) := by decide +kernel
theorem dX5_rowAt_6 : decode cX5_rowAt 6 = .ok (.iload_n 1, 1) := by decide +kernel
theorem dX5_rowAt_7 : decode cX5_rowAt 7 = .ok (.invokevirtual 75, 3) := by decide +kernel
theorem dX5_rowAt_10 : decode cX5_rowAt 10 = .ok (.istore_n 2, 1) := by decide +kernel
theorem dX5_rowAt_11 : decode cX5_rowAt 11 = .ok (.iload_n 2, 1) := by decide +kernel
theorem dX5_rowAt_12 : decode cX5_rowAt 12 = .ok (.iconst 1, 1) := by decide +kernel
theorem dX5_rowAt_13 : decode cX5_rowAt 13 = .ok (.if_icmp .ne 5, 3) := by decide +kernel
theorem dX5_rowAt_16 : decode cX5_rowAt 16 = .ok (.iload_n 1, 1) := by decide +kernel
theorem dX5_rowAt_17 : decode cX5_rowAt 17 = .ok (.ireturn, 1) := by decide +kernel
theorem dX5_rowAt_18 : decode cX5_rowAt 18 = .ok (.iload_n 2, 1) := by decide +kernel
theorem dX5_rowAt_19 : decode cX5_rowAt 19 = .ok (.iconst 3, 1) := by decide +kernel
theorem dX5_rowAt_20 : decode cX5_rowAt 20 = .ok (.if_icmp .ne 36, 3) := by decide +kernel
theorem dX5_rowAt_23 : decode cX5_rowAt 23 = .ok (.bipush 100, 2) := by decide +kernel
theorem dX5_rowAt_25 : decode cX5_rowAt 25 = .ok (.aload_n 0, 1) := by decide +kernel
theorem dX5_rowAt_26 : decode cX5_rowAt 26 = .ok (.iload_n 1, 1) := by decide +kernel
theorem dX5_rowAt_27 : decode cX5_rowAt 27 = .ok (.bipush 100, 2) := by decide +kernel
theorem dX5_rowAt_29 : decode cX5_rowAt 29 = .ok (.idiv, 1) := by decide +kernel
theorem dX5_rowAt_30 : decode cX5_rowAt 30 = .ok (.iload_n 1, 1) := by decide +kernel
theorem dX5_rowAt_31 : decode cX5_rowAt 31 = .ok (.bipush 100, 2) := by decide +kernel
theorem dX5_rowAt_33 : decode cX5_rowAt 33 = .ok (.irem, 1) := by decide +kernel
theorem dX5_rowAt_34 : decode cX5_rowAt 34 = .ok (.iconst 1, 1) := by decide +kernel
theorem dX5_rowAt_35 : decode cX5_rowAt 35 = .ok (.invokevirtual 58, 3) := by decide +kernel
theorem dX5_rowAt_38 : decode cX5_rowAt 38 = .ok (.imul, 1) := by decide +kernel
theorem dX5_rowAt_39 : decode cX5_rowAt 39 = .ok (.aload_n 0, 1) := by decide +kernel
theorem dX5_rowAt_40 : decode cX5_rowAt 40 = .ok (.iload_n 1, 1) := by decide +kernel
theorem dX5_rowAt_41 : decode cX5_rowAt 41 = .ok (.bipush 100, 2) := by decide +kernel
theorem dX5_rowAt_43 : decode cX5_rowAt 43 = .ok (.idiv, 1) := by decide +kernel
theorem dX5_rowAt_44 : decode cX5_rowAt 44 = .ok (.iload_n 1, 1) := by decide +kernel
theorem dX5_rowAt_45 : decode cX5_rowAt 45 = .ok (.bipush 100, 2) := by decide +kernel
theorem dX5_rowAt_47 : decode cX5_rowAt 47 = .ok (.irem, 1) := by decide +kernel
theorem dX5_rowAt_48 : decode cX5_rowAt 48 = .ok (.iconst 2, 1) := by decide +kernel
theorem dX5_rowAt_49 : decode cX5_rowAt 49 = .ok (.invokevirtual 58, 3) := by decide +kernel
theorem dX5_rowAt_52 : decode cX5_rowAt 52 = .ok (.iadd, 1) := by decide +kernel
theorem dX5_rowAt_53 : decode cX5_rowAt 53 = .ok (.goto 4, 3) := by decide +kernel
theorem dX5_rowAt_56 : decode cX5_rowAt 56 = .ok (.iconst (-1), 1) := by decide +kernel
theorem dX5_rowAt_57 : decode cX5_rowAt 57 = .ok (.ireturn, 1) := by decide +kernel
theorem dX5_pages_0 : decode cX5_pages 0 = .ok (.aload_n 0, 1) := by decide +kernel
theorem dX5_pages_1 : decode cX5_pages 1 = .ok (.iconst 0, 1) := by decide +kernel
theorem dX5_pages_2 : decode cX5_pages 2 = .ok (.putfield 22, 3) := by decide +kernel
theorem dX5_pages_5 : decode cX5_pages 5 = .ok (.aload_n 0, 1) := by decide +kernel
theorem dX5_pages_6 : decode cX5_pages 6 = .ok (.getfield 7, 3) := by decide +kernel
theorem dX5_pages_9 : decode cX5_pages 9 = .ok (.iconst 0, 1) := by decide +kernel
theorem dX5_pages_10 : decode cX5_pages 10 = .ok (.iaload, 1) := by decide +kernel
theorem dX5_pages_11 : decode cX5_pages 11 = .ok (.ireturn, 1) := by decide +kernel
theorem dX5_pageByte_0 : decode cX5_pageByte 0 = .ok (.aload_n 0, 1) := by decide +kernel
theorem dX5_pageByte_1 : decode cX5_pageByte 1 = .ok (.aload_n 0, 1) := by decide +kernel
theorem dX5_pageByte_2 : decode cX5_pageByte 2 = .ok (.iload_n 1, 1) := by decide +kernel
theorem dX5_pageByte_3 : decode cX5_pageByte 3 = .ok (.invokevirtual 172, 3) := by decide +kernel
theorem dX5_pageByte_6 : decode cX5_pageByte 6 = .ok (.ifCond .eq 17, 3) := by decide +kernel
theorem dX5_pageByte_9 : decode cX5_pageByte 9 = .ok (.iload_n 2, 1) := by decide +kernel
theorem dX5_pageByte_10 : decode cX5_pageByte 10 = .ok (.iconst 0, 1) := by decide +kernel
theorem dX5_pageByte_11 : decode cX5_pageByte 11 = .ok (.bipush 127, 2) := by decide +kernel
theorem dX5_pageByte_13 : decode cX5_pageByte 13 = .ok (.invokestatic 78, 3) := by decide +kernel
theorem dX5_pageByte_16 : decode cX5_pageByte 16 = .ok (.ifCond .eq 7, 3) := by decide +kernel
theorem dX5_pageByte_19 : decode cX5_pageByte 19 = .ok (.iconst 0, 1) := by decide +kernel
theorem dX5_pageByte_20 : decode cX5_pageByte 20 = .ok (.goto 4, 3) := by decide +kernel
theorem dX5_pageByte_23 : decode cX5_pageByte 23 = .ok (.iconst 1, 1) := by decide +kernel
theorem dX5_pageByte_24 : decode cX5_pageByte 24 = .ok (.invokevirtual 146, 3) := by decide +kernel
theorem dX5_pageByte_27 : decode cX5_pageByte 27 = .ok (.ifCond .eq 12, 3) := by decide +kernel
theorem dX5_pageByte_30 : decode cX5_pageByte 30 = .ok (.aload_n 0, 1) := by decide +kernel
theorem dX5_pageByte_31 : decode cX5_pageByte 31 = .ok (.iload_n 1, 1) := by decide +kernel
theorem dX5_pageByte_32 : decode cX5_pageByte 32 = .ok (.iload_n 2, 1) := by decide +kernel
theorem dX5_pageByte_33 : decode cX5_pageByte 33 = .ok (.invokevirtual 178, 3) := by decide +kernel
theorem dX5_pageByte_36 : decode cX5_pageByte 36 = .ok (.goto 4, 3) := by decide +kernel
theorem dX5_pageByte_39 : decode cX5_pageByte 39 = .ok (.iconst 0, 1) := by decide +kernel
theorem dX5_pageByte_40 : decode cX5_pageByte 40 = .ok (.ireturn, 1) := by decide +kernel
theorem dX5_free_0 : decode cX5_free 0 = .ok (.aload_n 0, 1) := by decide +kernel
theorem dX5_free_1 : decode cX5_free 1 = .ok (.aload_n 0, 1) := by decide +kernel
theorem dX5_free_2 : decode cX5_free 2 = .ok (.iload_n 1, 1) := by decide +kernel
theorem dX5_free_3 : decode cX5_free 3 = .ok (.invokevirtual 172, 3) := by decide +kernel
theorem dX5_free_6 : decode cX5_free 6 = .ok (.ifCond .eq 7, 3) := by decide +kernel
theorem dX5_free_9 : decode cX5_free 9 = .ok (.iconst 0, 1) := by decide +kernel
theorem dX5_free_10 : decode cX5_free 10 = .ok (.goto 4, 3) := by decide +kernel
theorem dX5_free_13 : decode cX5_free 13 = .ok (.iconst 1, 1) := by decide +kernel
theorem dX5_free_14 : decode cX5_free 14 = .ok (.invokevirtual 146, 3) := by decide +kernel
theorem dX5_free_17 : decode cX5_free 17 = .ok (.ifCond .eq 11, 3) := by decide +kernel
theorem dX5_free_20 : decode cX5_free 20 = .ok (.aload_n 0, 1) := by decide +kernel
theorem dX5_free_21 : decode cX5_free 21 = .ok (.iload_n 1, 1) := by decide +kernel
theorem dX5_free_22 : decode cX5_free 22 = .ok (.invokevirtual 47, 3) := by decide +kernel
theorem dX5_free_25 : decode cX5_free 25 = .ok (.goto 4, 3) := by decide +kernel
theorem dX5_free_28 : decode cX5_free 28 = .ok (.iconst 0, 1) := by decide +kernel
theorem dX5_free_29 : decode cX5_free 29 = .ok (.ireturn, 1) := by decide +kernel
theorem dX5_gap_0 : decode cX5_gap 0 = .ok (.aload_n 0, 1) := by decide +kernel
theorem dX5_gap_1 : decode cX5_gap 1 = .ok (.aload_n 0, 1) := by decide +kernel
theorem dX5_gap_2 : decode cX5_gap 2 = .ok (.iload_n 1, 1) := by decide +kernel
theorem dX5_gap_3 : decode cX5_gap 3 = .ok (.invokevirtual 172, 3) := by decide +kernel
theorem dX5_gap_6 : decode cX5_gap 6 = .ok (.ifCond .eq 7, 3) := by decide +kernel
theorem dX5_gap_9 : decode cX5_gap 9 = .ok (.iconst 0, 1) := by decide +kernel
theorem dX5_gap_10 : decode cX5_gap 10 = .ok (.goto 4, 3) := by decide +kernel
theorem dX5_gap_13 : decode cX5_gap 13 = .ok (.iconst 1, 1) := by decide +kernel
theorem dX5_gap_14 : decode cX5_gap 14 = .ok (.invokevirtual 146, 3) := by decide +kernel
theorem dX5_gap_17 : decode cX5_gap 17 = .ok (.ifCond .eq 11, 3) := by decide +kernel
theorem dX5_gap_20 : decode cX5_gap 20 = .ok (.aload_n 0, 1) := by decide +kernel
theorem dX5_gap_21 : decode cX5_gap 21 = .ok (.iload_n 1, 1) := by decide +kernel
theorem dX5_gap_22 : decode cX5_gap 22 = .ok (.invokevirtual 62, 3) := by decide +kernel
theorem dX5_gap_25 : decode cX5_gap 25 = .ok (.goto 4, 3) := by decide +kernel
theorem dX5_gap_28 : decode cX5_gap 28 = .ok (.iconst 0, 1) := by decide +kernel
theorem dX5_gap_29 : decode cX5_gap 29 = .ok (.ireturn, 1) := by decide +kernel
theorem dX5_kind_0 : decode cX5_kind 0 = .ok (.aload_n 0, 1) := by decide +kernel
theorem dX5_kind_1 : decode cX5_kind 1 = .ok (.iconst 0, 1) := by decide +kernel
theorem dX5_kind_2 : decode cX5_kind 2 = .ok (.putfield 22, 3) := by decide +kernel
theorem dX5_kind_5 : decode cX5_kind 5 = .ok (.aload_n 0, 1) := by decide +kernel
theorem dX5_kind_6 : decode cX5_kind 6 = .ok (.iload_n 1, 1) := by decide +kernel
theorem dX5_kind_7 : decode cX5_kind 7 = .ok (.invokevirtual 75, 3) := by decide +kernel
theorem dX5_kind_10 : decode cX5_kind 10 = .ok (.ireturn, 1) := by decide +kernel
theorem dX5_notes_0 : decode cX5_notes 0 = .ok (.aload_n 0, 1) := by decide +kernel
theorem dX5_notes_1 : decode cX5_notes 1 = .ok (.iconst 0, 1) := by decide +kernel
theorem dX5_notes_2 : decode cX5_notes 2 = .ok (.putfield 22, 3) := by decide +kernel
theorem dX5_notes_5 : decode cX5_notes 5 = .ok (.aload_n 0, 1) := by decide +kernel
theorem dX5_notes_6 : decode cX5_notes 6 = .ok (.iconst 2, 1) := by decide +kernel
theorem dX5_notes_7 : decode cX5_notes 7 = .ok (.iconst 2, 1) := by decide +kernel
theorem dX5_notes_8 : decode cX5_notes 8 = .ok (.invokevirtual 175, 3) := by decide +kernel
theorem dX5_notes_11 : decode cX5_notes 11 = .ok (.ireturn, 1) := by decide +kernel
theorem dX5_moves_0 : decode cX5_moves 0 = .ok (.aload_n 0, 1) := by decide +kernel
theorem dX5_moves_1 : decode cX5_moves 1 = .ok (.iconst 0, 1) := by decide +kernel
theorem dX5_moves_2 : decode cX5_moves 2 = .ok (.putfield 22, 3) := by decide +kernel
theorem dX5_moves_5 : decode cX5_moves 5 = .ok (.aload_n 0, 1) := by decide +kernel
theorem dX5_moves_6 : decode cX5_moves 6 = .ok (.getfield 7, 3) := by decide +kernel
theorem dX5_moves_9 : decode cX5_moves 9 = .ok (.iconst 1, 1) := by decide +kernel
theorem dX5_moves_10 : decode cX5_moves 10 = .ok (.iaload, 1) := by decide +kernel
theorem dX5_moves_11 : decode cX5_moves 11 = .ok (.ireturn, 1) := by decide +kernel
theorem dX5_returns_0 : decode cX5_returns 0 = .ok (.aload_n 0, 1) := by decide +kernel
theorem dX5_returns_1 : decode cX5_returns 1 = .ok (.iconst 0, 1) := by decide +kernel
theorem dX5_returns_2 : decode cX5_returns 2 = .ok (.putfield 22, 3) := by decide +kernel
theorem dX5_returns_5 : decode cX5_returns 5 = .ok (.aload_n 0, 1) := by decide +kernel
theorem dX5_returns_6 : decode cX5_returns 6 = .ok (.getfield 7, 3) := by decide +kernel
theorem dX5_returns_9 : decode cX5_returns 9 = .ok (.iconst 2, 1) := by decide +kernel
theorem dX5_returns_10 : decode cX5_returns 10 = .ok (.iaload, 1) := by decide +kernel
theorem dX5_returns_11 : decode cX5_returns 11 = .ok (.ireturn, 1) := by decide +kernel
theorem dX5_compactions_0 : decode cX5_compactions 0 = .ok (.aload_n 0, 1) := by decide +kernel
theorem dX5_compactions_1 : decode cX5_compactions 1 = .ok (.iconst 0, 1) := by decide +kernel
theorem dX5_compactions_2 : decode cX5_compactions 2 = .ok (.putfield 22, 3) := by decide +kernel
theorem dX5_compactions_5 : decode cX5_compactions 5 = .ok (.aload_n 0, 1) := by decide +kernel
theorem dX5_compactions_6 : decode cX5_compactions 6 = .ok (.getfield 7, 3) := by decide +kernel
theorem dX5_compactions_9 : decode cX5_compactions 9 = .ok (.iconst 3, 1) := by decide +kernel
theorem dX5_compactions_10 : decode cX5_compactions 10 = .ok (.iaload, 1) := by decide +kernel
theorem dX5_compactions_11 : decode cX5_compactions 11 = .ok (.ireturn, 1) := by decide +kernel
theorem dX5_factor_0 : decode cX5_factor 0 = .ok (.iconst 0, 1) := by decide +kernel
theorem dX5_factor_1 : decode cX5_factor 1 = .ok (.istore_n 1, 1) := by decide +kernel
theorem dX5_factor_2 : decode cX5_factor 2 = .ok (.iconst 0, 1) := by decide +kernel
theorem dX5_factor_3 : decode cX5_factor 3 = .ok (.istore_n 2, 1) := by decide +kernel
theorem dX5_factor_4 : decode cX5_factor 4 = .ok (.iload_n 2, 1) := by decide +kernel
theorem dX5_factor_5 : decode cX5_factor 5 = .ok (.aload_n 0, 1) := by decide +kernel
theorem dX5_factor_6 : decode cX5_factor 6 = .ok (.getfield 7, 3) := by decide +kernel
theorem dX5_factor_9 : decode cX5_factor 9 = .ok (.iconst 0, 1) := by decide +kernel
theorem dX5_factor_10 : decode cX5_factor 10 = .ok (.iaload, 1) := by decide +kernel
theorem dX5_factor_11 : decode cX5_factor 11 = .ok (.if_icmp .ge 17, 3) := by decide +kernel
theorem dX5_factor_14 : decode cX5_factor 14 = .ok (.iload_n 1, 1) := by decide +kernel
theorem dX5_factor_15 : decode cX5_factor 15 = .ok (.aload_n 0, 1) := by decide +kernel
theorem dX5_factor_16 : decode cX5_factor 16 = .ok (.iload_n 2, 1) := by decide +kernel
theorem dX5_factor_17 : decode cX5_factor 17 = .ok (.invokevirtual 41, 3) := by decide +kernel
theorem dX5_factor_20 : decode cX5_factor 20 = .ok (.iadd, 1) := by decide +kernel
theorem dX5_factor_21 : decode cX5_factor 21 = .ok (.istore_n 1, 1) := by decide +kernel
theorem dX5_factor_22 : decode cX5_factor 22 = .ok (.iinc 2 1, 3) := by decide +kernel
theorem dX5_factor_25 : decode cX5_factor 25 = .ok (.goto (-21), 3) := by decide +kernel
theorem dX5_factor_28 : decode cX5_factor 28 = .ok (.aload_n 0, 1) := by decide +kernel
theorem dX5_factor_29 : decode cX5_factor 29 = .ok (.getfield 7, 3) := by decide +kernel
theorem dX5_factor_32 : decode cX5_factor 32 = .ok (.iconst 0, 1) := by decide +kernel
theorem dX5_factor_33 : decode cX5_factor 33 = .ok (.iaload, 1) := by decide +kernel
theorem dX5_factor_34 : decode cX5_factor 34 = .ok (.ifCond .ne 7, 3) := by decide +kernel
theorem dX5_factor_37 : decode cX5_factor 37 = .ok (.dconst 0, 1) := by decide +kernel
theorem dX5_factor_38 : decode cX5_factor 38 = .ok (.goto 17, 3) := by decide +kernel
theorem dX5_factor_41 : decode cX5_factor 41 = .ok (.iload_n 1, 1) := by decide +kernel
theorem dX5_factor_42 : decode cX5_factor 42 = .ok (.i2d, 1) := by decide +kernel
theorem dX5_factor_43 : decode cX5_factor 43 = .ok (.sipush 128, 3) := by decide +kernel
theorem dX5_factor_46 : decode cX5_factor 46 = .ok (.aload_n 0, 1) := by decide +kernel
theorem dX5_factor_47 : decode cX5_factor 47 = .ok (.getfield 7, 3) := by decide +kernel
theorem dX5_factor_50 : decode cX5_factor 50 = .ok (.iconst 0, 1) := by decide +kernel
theorem dX5_factor_51 : decode cX5_factor 51 = .ok (.iaload, 1) := by decide +kernel
theorem dX5_factor_52 : decode cX5_factor 52 = .ok (.imul, 1) := by decide +kernel
theorem dX5_factor_53 : decode cX5_factor 53 = .ok (.i2d, 1) := by decide +kernel
theorem dX5_factor_54 : decode cX5_factor 54 = .ok (.ddiv, 1) := by decide +kernel
theorem dX5_factor_55 : decode cX5_factor 55 = .ok (.dreturn, 1) := by decide +kernel
theorem dX5_fillFactor_0 : decode cX5_fillFactor 0 = .ok (.aload_n 0, 1) := by decide +kernel
theorem dX5_fillFactor_1 : decode cX5_fillFactor 1 = .ok (.iconst 0, 1) := by decide +kernel
